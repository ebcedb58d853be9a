/-! isInList -/
theorem dX12_isInList_0 : decode cX12_isInList 0 = .ok (.aload_n 0, 1) := by decide +kernel
theorem dX12_isInList_1 : decode cX12_isInList 1 = .ok (.getfield 380, 3) := by decide +kernel
theorem dX12_isInList_4 : decode cX12_isInList 4 = .ok (.ifCond .le 21, 3) := by decide +kernel
theorem dX12_isInList_7 : decode cX12_isInList 7 = .ok (.aload_n 0, 1) := by decide +kernel
theorem dX12_isInList_8 : decode cX12_isInList 8 = .ok (.getfield 63, 3) := by decide +kernel
theorem dX12_isInList_11 : decode cX12_isInList 11 = .ok (.aload_n 0, 1) := by decide +kernel
theorem dX12_isInList_12 : decode cX12_isInList 12 = .ok (.getfield 380, 3) := by decide +kernel
theorem dX12_isInList_15 : decode cX12_isInList 15 = .ok (.iconst 1, 1) := by decide +kernel
theorem dX12_isInList_16 : decode cX12_isInList 16 = .ok (.isub, 1) := by decide +kernel
theorem dX12_isInList_17 : decode cX12_isInList 17 = .ok (.iaload, 1) := by decide +kernel
theorem dX12_isInList_18 : decode cX12_isInList 18 = .ok (.ifCond .ne 7, 3) := by decide +kernel
theorem dX12_isInList_21 : decode cX12_isInList 21 = .ok (.iconst 1, 1) := by decide +kernel
theorem dX12_isInList_22 : decode cX12_isInList 22 = .ok (.goto 4, 3) := by decide +kernel
theorem dX12_isInList_25 : decode cX12_isInList 25 = .ok (.iconst 0, 1) := by decide +kernel
theorem dX12_isInList_26 : decode cX12_isInList 26 = .ok (.ireturn, 1) := by decide +kernel

section
variable {p : Program} {l : Launch} {e : Env} {R : Room} {s : State} {m : MethodId} {args : Array Value} {below : List Frame} {meth : Method} {c : Code} {H : Heap} {locs : List Loc} {Qf : State → Prop}
variable {ls : Array Slot} {D : va_G} {ca : Nat → ClassId} {A : Nat → Prop} {h0 : Nat} {ad : Nat → Nat} {H0 : Heap} {u : iST}
def w_isInList (Q : Int → iST → Prop) (u : iST) : Prop :=
  rd (u.1 30) (fun v1 => 
  br (v1 ≤ 0) (
    zt 0 (Q 0 u)) (
    rd (u.1 30) (fun v2 => 
    ov (v2 - 1) (
    bd (v2 - 1) 40 (rd (u.2.1 26 (v2 - 1)) (fun v4 => 
    br (v4 ≠ 0) (
      zt 0 (Q 0 u)) (
      zt 1 (Q 1 u))))))))
set_option maxRecDepth 20000 in
set_option maxHeartbeats 4000000 in
theorem b_isInList_s (X : kX p m c cX12_isInList 1 s args D ca) (hRf : 0 ≤ R.frames) (hRl : 0 ≤ R.locals) {Q : Int → iST → Prop} (hret : ∀ (v : Int) (u : iST) (H : Heap) (locs : List Loc) (ls : Array Slot) (pc : Nat), bz v → Q v u → kW D ca A h0 ad H0 H locs u → decode cX12_isInList pc = .ok (.ireturn, 1) → W p l e R s m args below meth c H locs 0 0 Qf (F0 m pc ls [.int (jI v)])) (hw : kW D ca A h0 ad H0 H locs u) (hl : lv_has ls 1 [(0, .ref h0)]) (h : w_isInList Q u) : W p l e R s m args below meth c H locs 0 0 Qf (F0 m 0 ls []) := by
  have hx := X.1.1
  have hb := X.1.2.1
  unfold w_isInList at h
  refine lv_aload_n hx hb dX12_isInList_0 rfl (lv_at hl 0 rfl) ?_
  refine gS 30 380 (by decide) L_30 (fun _ _ => mF_30) rfl X hw dX12_isInList_1 h (fun v1 rv1 h => ?_)
  refine k_if_le hx hb rv1 dX12_isInList_4 (tgt := 25) rfl h (fun h => ?_) (fun h => ?_)
  · refine lv_iconst hx hb dX12_isInList_25 (v := jI 0) rfl ?_
    exact hret _ _ _ _ _ _ h.1 h.2 hw dX12_isInList_26
  · refine lv_aload_n hx hb dX12_isInList_7 rfl (lv_at hl 0 rfl) ?_
    refine gA 26 63 (by decide) L_26 (fun _ _ => mF_26) rfl X hw dX12_isInList_8 ?_
    refine lv_aload_n hx hb dX12_isInList_11 rfl (lv_at hl 0 rfl) ?_
    refine gS 30 380 (by decide) L_30 (fun _ _ => mF_30) rfl X hw dX12_isInList_12 h (fun v2 rv2 h => ?_)
    refine lv_iconst hx hb dX12_isInList_15 (v := jI 1) rfl ?_
    refine k_isub hx hb dX12_isInList_16 h (fun r3 h => ?_)
    refine aL 26 16 15 40 (fun _ _ _ _ => mG_26) (fun _ => rfl) X hw r3 dX12_isInList_17 rfl h (fun v4 rv4 h => ?_)
    refine k_if_ne hx hb rv4 dX12_isInList_18 (tgt := 25) rfl h (fun h => ?_) (fun h => ?_)
    · refine lv_iconst hx hb dX12_isInList_25 (v := jI 0) rfl ?_
      exact hret _ _ _ _ _ _ h.1 h.2 hw dX12_isInList_26
    · refine lv_iconst hx hb dX12_isInList_21 (v := jI 1) rfl ?_
      refine lv_goto hx hb dX12_isInList_22 (tgt := 26) rfl ?_
      exact hret _ _ _ _ _ _ h.1 h.2 hw dX12_isInList_26

end
theorem c_isInList {l : Launch} {Q : Int → iST → Prop} {u : iST} (h : w_isInList Q u) : kMI l yX12_isInList (.code yX12_isInList cX12_isInList 1 (some .boolean) :: wsM) { frames := 0, cells := 0, slots := 0, locals := 0 } [] Q u := kMZ_of rfl (fun _ => Nat.le_of_ble_eq_true rfl) (fun X hRf hRl hret hw hl => b_isInList_s X hRf hRl hret hw hl h)

/-! readWord -/
theorem dX12_readWord_0 : decode cX12_readWord 0 = .ok (.aload_n 0, 1) := by decide +kernel
theorem dX12_readWord_1 : decode cX12_readWord 1 = .ok (.getfield 371, 3) := by decide +kernel
theorem dX12_readWord_4 : decode cX12_readWord 4 = .ok (.istore_n 2, 1) := by decide +kernel
theorem dX12_readWord_5 : decode cX12_readWord 5 = .ok (.aload_n 0, 1) := by decide +kernel
theorem dX12_readWord_6 : decode cX12_readWord 6 = .ok (.getfield 44, 3) := by decide +kernel
theorem dX12_readWord_9 : decode cX12_readWord 9 = .ok (.aload_n 0, 1) := by decide +kernel
theorem dX12_readWord_10 : decode cX12_readWord 10 = .ok (.getfield 371, 3) := by decide +kernel
theorem dX12_readWord_13 : decode cX12_readWord 13 = .ok (.iaload, 1) := by decide +kernel
theorem dX12_readWord_14 : decode cX12_readWord 14 = .ok (.istore_n 3, 1) := by decide +kernel
theorem dX12_readWord_15 : decode cX12_readWord 15 = .ok (.iload_n 1, 1) := by decide +kernel
theorem dX12_readWord_16 : decode cX12_readWord 16 = .ok (.sipush 1000, 3) := by decide +kernel
theorem dX12_readWord_19 : decode cX12_readWord 19 = .ok (.if_icmp .le 7, 3) := by decide +kernel
theorem dX12_readWord_22 : decode cX12_readWord 22 = .ok (.iconst 1, 1) := by decide +kernel
theorem dX12_readWord_23 : decode cX12_readWord 23 = .ok (.goto 4, 3) := by decide +kernel
theorem dX12_readWord_26 : decode cX12_readWord 26 = .ok (.iconst 0, 1) := by decide +kernel
theorem dX12_readWord_27 : decode cX12_readWord 27 = .ok (.istore 4, 2) := by decide +kernel
theorem dX12_readWord_29 : decode cX12_readWord 29 = .ok (.aload_n 0, 1) := by decide +kernel
theorem dX12_readWord_30 : decode cX12_readWord 30 = .ok (.dup, 1) := by decide +kernel
theorem dX12_readWord_31 : decode cX12_readWord 31 = .ok (.getfield 371, 3) := by decide +kernel
theorem dX12_readWord_34 : decode cX12_readWord 34 = .ok (.iconst 1, 1) := by decide +kernel
theorem dX12_readWord_35 : decode cX12_readWord 35 = .ok (.iadd, 1) := by decide +kernel
theorem dX12_readWord_36 : decode cX12_readWord 36 = .ok (.putfield 371, 3) := by decide +kernel
theorem dX12_readWord_39 : decode cX12_readWord 39 = .ok (.iload_n 3, 1) := by decide +kernel
theorem dX12_readWord_40 : decode cX12_readWord 40 = .ok (.bipush 40, 2) := by decide +kernel
theorem dX12_readWord_42 : decode cX12_readWord 42 = .ok (.if_icmp .eq 9, 3) := by decide +kernel
theorem dX12_readWord_45 : decode cX12_readWord 45 = .ok (.iload_n 3, 1) := by decide +kernel
theorem dX12_readWord_46 : decode cX12_readWord 46 = .ok (.bipush 39, 2) := by decide +kernel
theorem dX12_readWord_48 : decode cX12_readWord 48 = .ok (.if_icmp .ne 69, 3) := by decide +kernel
theorem dX12_readWord_51 : decode cX12_readWord 51 = .ok (.aload_n 0, 1) := by decide +kernel
theorem dX12_readWord_52 : decode cX12_readWord 52 = .ok (.invokevirtual 406, 3) := by decide +kernel
theorem dX12_readWord_55 : decode cX12_readWord 55 = .ok (.ifCond .ne 12, 3) := by decide +kernel
theorem dX12_readWord_58 : decode cX12_readWord 58 = .ok (.aload_n 0, 1) := by decide +kernel
theorem dX12_readWord_59 : decode cX12_readWord 59 = .ok (.iconst 3, 1) := by decide +kernel
theorem dX12_readWord_60 : decode cX12_readWord 60 = .ok (.iload_n 2, 1) := by decide +kernel
theorem dX12_readWord_61 : decode cX12_readWord 61 = .ok (.invokevirtual 410, 3) := by decide +kernel
theorem dX12_readWord_64 : decode cX12_readWord 64 = .ok (.goto 311, 3) := by decide +kernel
theorem dX12_readWord_67 : decode cX12_readWord 67 = .ok (.aload_n 0, 1) := by decide +kernel
theorem dX12_readWord_68 : decode cX12_readWord 68 = .ok (.getfield 380, 3) := by decide +kernel
theorem dX12_readWord_71 : decode cX12_readWord 71 = .ok (.bipush 40, 2) := by decide +kernel
theorem dX12_readWord_73 : decode cX12_readWord 73 = .ok (.if_icmp .ne 12, 3) := by decide +kernel
theorem dX12_readWord_76 : decode cX12_readWord 76 = .ok (.aload_n 0, 1) := by decide +kernel
theorem dX12_readWord_77 : decode cX12_readWord 77 = .ok (.iconst 4, 1) := by decide +kernel
theorem dX12_readWord_78 : decode cX12_readWord 78 = .ok (.iload_n 2, 1) := by decide +kernel
theorem dX12_readWord_79 : decode cX12_readWord 79 = .ok (.invokevirtual 410, 3) := by decide +kernel
theorem dX12_readWord_82 : decode cX12_readWord 82 = .ok (.goto 293, 3) := by decide +kernel
theorem dX12_readWord_85 : decode cX12_readWord 85 = .ok (.iload 4, 2) := by decide +kernel
theorem dX12_readWord_87 : decode cX12_readWord 87 = .ok (.ifCond .eq 12, 3) := by decide +kernel
theorem dX12_readWord_90 : decode cX12_readWord 90 = .ok (.aload_n 0, 1) := by decide +kernel
theorem dX12_readWord_91 : decode cX12_readWord 91 = .ok (.iconst 5, 1) := by decide +kernel
theorem dX12_readWord_92 : decode cX12_readWord 92 = .ok (.iload_n 2, 1) := by decide +kernel
theorem dX12_readWord_93 : decode cX12_readWord 93 = .ok (.invokevirtual 410, 3) := by decide +kernel
theorem dX12_readWord_96 : decode cX12_readWord 96 = .ok (.goto 279, 3) := by decide +kernel
theorem dX12_readWord_99 : decode cX12_readWord 99 = .ok (.aload_n 0, 1) := by decide +kernel
theorem dX12_readWord_100 : decode cX12_readWord 100 = .ok (.iload_n 3, 1) := by decide +kernel
theorem dX12_readWord_101 : decode cX12_readWord 101 = .ok (.bipush 40, 2) := by decide +kernel
theorem dX12_readWord_103 : decode cX12_readWord 103 = .ok (.if_icmp .ne 7, 3) := by decide +kernel
theorem dX12_readWord_106 : decode cX12_readWord 106 = .ok (.iconst 0, 1) := by decide +kernel
theorem dX12_readWord_107 : decode cX12_readWord 107 = .ok (.goto 4, 3) := by decide +kernel
theorem dX12_readWord_110 : decode cX12_readWord 110 = .ok (.iconst 1, 1) := by decide +kernel
theorem dX12_readWord_111 : decode cX12_readWord 111 = .ok (.invokevirtual 414, 3) := by decide +kernel
theorem dX12_readWord_114 : decode cX12_readWord 114 = .ok (.goto 261, 3) := by decide +kernel
theorem dX12_readWord_117 : decode cX12_readWord 117 = .ok (.iload_n 3, 1) := by decide +kernel
theorem dX12_readWord_118 : decode cX12_readWord 118 = .ok (.bipush 41, 2) := by decide +kernel
theorem dX12_readWord_120 : decode cX12_readWord 120 = .ok (.if_icmp .ne 55, 3) := by decide +kernel
theorem dX12_readWord_123 : decode cX12_readWord 123 = .ok (.aload_n 0, 1) := by decide +kernel
theorem dX12_readWord_124 : decode cX12_readWord 124 = .ok (.invokevirtual 417, 3) := by decide +kernel
theorem dX12_readWord_127 : decode cX12_readWord 127 = .ok (.ifCond .eq 18, 3) := by decide +kernel
theorem dX12_readWord_130 : decode cX12_readWord 130 = .ok (.aload_n 0, 1) := by decide +kernel
theorem dX12_readWord_131 : decode cX12_readWord 131 = .ok (.getfield 69, 3) := by decide +kernel
theorem dX12_readWord_134 : decode cX12_readWord 134 = .ok (.aload_n 0, 1) := by decide +kernel
theorem dX12_readWord_135 : decode cX12_readWord 135 = .ok (.getfield 380, 3) := by decide +kernel
theorem dX12_readWord_138 : decode cX12_readWord 138 = .ok (.iconst 1, 1) := by decide +kernel
theorem dX12_readWord_139 : decode cX12_readWord 139 = .ok (.isub, 1) := by decide +kernel
theorem dX12_readWord_140 : decode cX12_readWord 140 = .ok (.iaload, 1) := by decide +kernel
theorem dX12_readWord_141 : decode cX12_readWord 141 = .ok (.iconst 1, 1) := by decide +kernel
theorem dX12_readWord_142 : decode cX12_readWord 142 = .ok (.if_icmp .ne 12, 3) := by decide +kernel
theorem dX12_readWord_145 : decode cX12_readWord 145 = .ok (.aload_n 0, 1) := by decide +kernel
theorem dX12_readWord_146 : decode cX12_readWord 146 = .ok (.iconst 3, 1) := by decide +kernel
theorem dX12_readWord_147 : decode cX12_readWord 147 = .ok (.iload_n 2, 1) := by decide +kernel
theorem dX12_readWord_148 : decode cX12_readWord 148 = .ok (.invokevirtual 410, 3) := by decide +kernel
theorem dX12_readWord_151 : decode cX12_readWord 151 = .ok (.goto 224, 3) := by decide +kernel
theorem dX12_readWord_154 : decode cX12_readWord 154 = .ok (.iload 4, 2) := by decide +kernel
theorem dX12_readWord_156 : decode cX12_readWord 156 = .ok (.ifCond .eq 12, 3) := by decide +kernel
theorem dX12_readWord_159 : decode cX12_readWord 159 = .ok (.aload_n 0, 1) := by decide +kernel
theorem dX12_readWord_160 : decode cX12_readWord 160 = .ok (.iconst 5, 1) := by decide +kernel
theorem dX12_readWord_161 : decode cX12_readWord 161 = .ok (.iload_n 2, 1) := by decide +kernel
theorem dX12_readWord_162 : decode cX12_readWord 162 = .ok (.invokevirtual 410, 3) := by decide +kernel
theorem dX12_readWord_165 : decode cX12_readWord 165 = .ok (.goto 210, 3) := by decide +kernel
theorem dX12_readWord_168 : decode cX12_readWord 168 = .ok (.aload_n 0, 1) := by decide +kernel
theorem dX12_readWord_169 : decode cX12_readWord 169 = .ok (.invokevirtual 420, 3) := by decide +kernel
theorem dX12_readWord_172 : decode cX12_readWord 172 = .ok (.goto 203, 3) := by decide +kernel
theorem dX12_readWord_175 : decode cX12_readWord 175 = .ok (.iload_n 3, 1) := by decide +kernel
theorem dX12_readWord_176 : decode cX12_readWord 176 = .ok (.bipush 46, 2) := by decide +kernel
theorem dX12_readWord_178 : decode cX12_readWord 178 = .ok (.if_icmp .ne 80, 3) := by decide +kernel
theorem dX12_readWord_181 : decode cX12_readWord 181 = .ok (.aload_n 0, 1) := by decide +kernel
theorem dX12_readWord_182 : decode cX12_readWord 182 = .ok (.invokevirtual 417, 3) := by decide +kernel
theorem dX12_readWord_185 : decode cX12_readWord 185 = .ok (.ifCond .eq 35, 3) := by decide +kernel
theorem dX12_readWord_188 : decode cX12_readWord 188 = .ok (.aload_n 0, 1) := by decide +kernel
theorem dX12_readWord_189 : decode cX12_readWord 189 = .ok (.getfield 69, 3) := by decide +kernel
theorem dX12_readWord_192 : decode cX12_readWord 192 = .ok (.aload_n 0, 1) := by decide +kernel
theorem dX12_readWord_193 : decode cX12_readWord 193 = .ok (.getfield 380, 3) := by decide +kernel
theorem dX12_readWord_196 : decode cX12_readWord 196 = .ok (.iconst 1, 1) := by decide +kernel
theorem dX12_readWord_197 : decode cX12_readWord 197 = .ok (.isub, 1) := by decide +kernel
theorem dX12_readWord_198 : decode cX12_readWord 198 = .ok (.iaload, 1) := by decide +kernel
theorem dX12_readWord_199 : decode cX12_readWord 199 = .ok (.ifCond .ne 21, 3) := by decide +kernel
theorem dX12_readWord_202 : decode cX12_readWord 202 = .ok (.aload_n 0, 1) := by decide +kernel
theorem dX12_readWord_203 : decode cX12_readWord 203 = .ok (.getfield 387, 3) := by decide +kernel
theorem dX12_readWord_206 : decode cX12_readWord 206 = .ok (.aload_n 0, 1) := by decide +kernel
theorem dX12_readWord_207 : decode cX12_readWord 207 = .ok (.getfield 66, 3) := by decide +kernel
theorem dX12_readWord_210 : decode cX12_readWord 210 = .ok (.aload_n 0, 1) := by decide +kernel
theorem dX12_readWord_211 : decode cX12_readWord 211 = .ok (.getfield 380, 3) := by decide +kernel
theorem dX12_readWord_214 : decode cX12_readWord 214 = .ok (.iconst 1, 1) := by decide +kernel
theorem dX12_readWord_215 : decode cX12_readWord 215 = .ok (.isub, 1) := by decide +kernel
theorem dX12_readWord_216 : decode cX12_readWord 216 = .ok (.iaload, 1) := by decide +kernel
theorem dX12_readWord_217 : decode cX12_readWord 217 = .ok (.if_icmp .ne 12, 3) := by decide +kernel
theorem dX12_readWord_220 : decode cX12_readWord 220 = .ok (.aload_n 0, 1) := by decide +kernel
theorem dX12_readWord_221 : decode cX12_readWord 221 = .ok (.iconst 3, 1) := by decide +kernel
theorem dX12_readWord_222 : decode cX12_readWord 222 = .ok (.iload_n 2, 1) := by decide +kernel
theorem dX12_readWord_223 : decode cX12_readWord 223 = .ok (.invokevirtual 410, 3) := by decide +kernel
theorem dX12_readWord_226 : decode cX12_readWord 226 = .ok (.goto 149, 3) := by decide +kernel
theorem dX12_readWord_229 : decode cX12_readWord 229 = .ok (.iload 4, 2) := by decide +kernel
theorem dX12_readWord_231 : decode cX12_readWord 231 = .ok (.ifCond .eq 12, 3) := by decide +kernel
theorem dX12_readWord_234 : decode cX12_readWord 234 = .ok (.aload_n 0, 1) := by decide +kernel
theorem dX12_readWord_235 : decode cX12_readWord 235 = .ok (.iconst 5, 1) := by decide +kernel
theorem dX12_readWord_236 : decode cX12_readWord 236 = .ok (.iload_n 2, 1) := by decide +kernel
theorem dX12_readWord_237 : decode cX12_readWord 237 = .ok (.invokevirtual 410, 3) := by decide +kernel
theorem dX12_readWord_240 : decode cX12_readWord 240 = .ok (.goto 135, 3) := by decide +kernel
theorem dX12_readWord_243 : decode cX12_readWord 243 = .ok (.aload_n 0, 1) := by decide +kernel
theorem dX12_readWord_244 : decode cX12_readWord 244 = .ok (.getfield 69, 3) := by decide +kernel
theorem dX12_readWord_247 : decode cX12_readWord 247 = .ok (.aload_n 0, 1) := by decide +kernel
theorem dX12_readWord_248 : decode cX12_readWord 248 = .ok (.getfield 380, 3) := by decide +kernel
theorem dX12_readWord_251 : decode cX12_readWord 251 = .ok (.iconst 1, 1) := by decide +kernel
theorem dX12_readWord_252 : decode cX12_readWord 252 = .ok (.isub, 1) := by decide +kernel
theorem dX12_readWord_253 : decode cX12_readWord 253 = .ok (.iconst 1, 1) := by decide +kernel
theorem dX12_readWord_254 : decode cX12_readWord 254 = .ok (.iastore, 1) := by decide +kernel
theorem dX12_readWord_255 : decode cX12_readWord 255 = .ok (.goto 120, 3) := by decide +kernel
theorem dX12_readWord_258 : decode cX12_readWord 258 = .ok (.iload_n 3, 1) := by decide +kernel
theorem dX12_readWord_259 : decode cX12_readWord 259 = .ok (.invokestatic 423, 3) := by decide +kernel
theorem dX12_readWord_262 : decode cX12_readWord 262 = .ok (.ifCond .ne 12, 3) := by decide +kernel
theorem dX12_readWord_265 : decode cX12_readWord 265 = .ok (.aload_n 0, 1) := by decide +kernel
theorem dX12_readWord_266 : decode cX12_readWord 266 = .ok (.iconst 1, 1) := by decide +kernel
theorem dX12_readWord_267 : decode cX12_readWord 267 = .ok (.iload_n 2, 1) := by decide +kernel
theorem dX12_readWord_268 : decode cX12_readWord 268 = .ok (.invokevirtual 410, 3) := by decide +kernel
theorem dX12_readWord_271 : decode cX12_readWord 271 = .ok (.goto 104, 3) := by decide +kernel
theorem dX12_readWord_274 : decode cX12_readWord 274 = .ok (.aload_n 0, 1) := by decide +kernel
theorem dX12_readWord_275 : decode cX12_readWord 275 = .ok (.getfield 371, 3) := by decide +kernel
theorem dX12_readWord_278 : decode cX12_readWord 278 = .ok (.aload_n 0, 1) := by decide +kernel
theorem dX12_readWord_279 : decode cX12_readWord 279 = .ok (.getfield 374, 3) := by decide +kernel
theorem dX12_readWord_282 : decode cX12_readWord 282 = .ok (.if_icmp .ge 31, 3) := by decide +kernel
theorem dX12_readWord_285 : decode cX12_readWord 285 = .ok (.aload_n 0, 1) := by decide +kernel
theorem dX12_readWord_286 : decode cX12_readWord 286 = .ok (.getfield 44, 3) := by decide +kernel
theorem dX12_readWord_289 : decode cX12_readWord 289 = .ok (.aload_n 0, 1) := by decide +kernel
theorem dX12_readWord_290 : decode cX12_readWord 290 = .ok (.getfield 371, 3) := by decide +kernel
theorem dX12_readWord_293 : decode cX12_readWord 293 = .ok (.iaload, 1) := by decide +kernel
theorem dX12_readWord_294 : decode cX12_readWord 294 = .ok (.invokestatic 423, 3) := by decide +kernel
theorem dX12_readWord_297 : decode cX12_readWord 297 = .ok (.ifCond .eq 16, 3) := by decide +kernel
theorem dX12_readWord_300 : decode cX12_readWord 300 = .ok (.aload_n 0, 1) := by decide +kernel
theorem dX12_readWord_301 : decode cX12_readWord 301 = .ok (.dup, 1) := by decide +kernel
theorem dX12_readWord_302 : decode cX12_readWord 302 = .ok (.getfield 371, 3) := by decide +kernel
theorem dX12_readWord_305 : decode cX12_readWord 305 = .ok (.iconst 1, 1) := by decide +kernel
theorem dX12_readWord_306 : decode cX12_readWord 306 = .ok (.iadd, 1) := by decide +kernel
theorem dX12_readWord_307 : decode cX12_readWord 307 = .ok (.putfield 371, 3) := by decide +kernel
theorem dX12_readWord_310 : decode cX12_readWord 310 = .ok (.goto (-36), 3) := by decide +kernel
theorem dX12_readWord_313 : decode cX12_readWord 313 = .ok (.aload_n 0, 1) := by decide +kernel
theorem dX12_readWord_314 : decode cX12_readWord 314 = .ok (.iload_n 2, 1) := by decide +kernel
theorem dX12_readWord_315 : decode cX12_readWord 315 = .ok (.aload_n 0, 1) := by decide +kernel
theorem dX12_readWord_316 : decode cX12_readWord 316 = .ok (.getfield 371, 3) := by decide +kernel
theorem dX12_readWord_319 : decode cX12_readWord 319 = .ok (.invokevirtual 426, 3) := by decide +kernel
theorem dX12_readWord_322 : decode cX12_readWord 322 = .ok (.istore 5, 2) := by decide +kernel
theorem dX12_readWord_324 : decode cX12_readWord 324 = .ok (.iload 5, 2) := by decide +kernel
theorem dX12_readWord_326 : decode cX12_readWord 326 = .ok (.iconst (-1), 1) := by decide +kernel
theorem dX12_readWord_327 : decode cX12_readWord 327 = .ok (.if_icmp .ne 12, 3) := by decide +kernel
theorem dX12_readWord_330 : decode cX12_readWord 330 = .ok (.aload_n 0, 1) := by decide +kernel
theorem dX12_readWord_331 : decode cX12_readWord 331 = .ok (.iconst 2, 1) := by decide +kernel
theorem dX12_readWord_332 : decode cX12_readWord 332 = .ok (.iload_n 2, 1) := by decide +kernel
theorem dX12_readWord_333 : decode cX12_readWord 333 = .ok (.invokevirtual 410, 3) := by decide +kernel
theorem dX12_readWord_336 : decode cX12_readWord 336 = .ok (.goto 39, 3) := by decide +kernel
theorem dX12_readWord_339 : decode cX12_readWord 339 = .ok (.aload_n 0, 1) := by decide +kernel
theorem dX12_readWord_340 : decode cX12_readWord 340 = .ok (.invokevirtual 406, 3) := by decide +kernel
theorem dX12_readWord_343 : decode cX12_readWord 343 = .ok (.ifCond .ne 12, 3) := by decide +kernel
theorem dX12_readWord_346 : decode cX12_readWord 346 = .ok (.aload_n 0, 1) := by decide +kernel
theorem dX12_readWord_347 : decode cX12_readWord 347 = .ok (.iconst 3, 1) := by decide +kernel
theorem dX12_readWord_348 : decode cX12_readWord 348 = .ok (.iload_n 2, 1) := by decide +kernel
theorem dX12_readWord_349 : decode cX12_readWord 349 = .ok (.invokevirtual 410, 3) := by decide +kernel
theorem dX12_readWord_352 : decode cX12_readWord 352 = .ok (.goto 23, 3) := by decide +kernel
theorem dX12_readWord_355 : decode cX12_readWord 355 = .ok (.iload 4, 2) := by decide +kernel
theorem dX12_readWord_357 : decode cX12_readWord 357 = .ok (.ifCond .eq 12, 3) := by decide +kernel
theorem dX12_readWord_360 : decode cX12_readWord 360 = .ok (.aload_n 0, 1) := by decide +kernel
theorem dX12_readWord_361 : decode cX12_readWord 361 = .ok (.iconst 5, 1) := by decide +kernel
theorem dX12_readWord_362 : decode cX12_readWord 362 = .ok (.iload_n 2, 1) := by decide +kernel
theorem dX12_readWord_363 : decode cX12_readWord 363 = .ok (.invokevirtual 410, 3) := by decide +kernel
theorem dX12_readWord_366 : decode cX12_readWord 366 = .ok (.goto 9, 3) := by decide +kernel
theorem dX12_readWord_369 : decode cX12_readWord 369 = .ok (.aload_n 0, 1) := by decide +kernel
theorem dX12_readWord_370 : decode cX12_readWord 370 = .ok (.iload 5, 2) := by decide +kernel
theorem dX12_readWord_372 : decode cX12_readWord 372 = .ok (.invokevirtual 393, 3) := by decide +kernel
theorem dX12_readWord_375 : decode cX12_readWord 375 = .ok (.return_, 1) := by decide +kernel

section
variable {p : Program} {l : Launch} {e : Env} {R : Room} {s : State} {m : MethodId} {args : Array Value} {below : List Frame} {meth : Method} {c : Code} {H : Heap} {locs : List Loc} {Qf : State → Prop}
variable {ls : Array Slot} {D : va_G} {ca : Nat → ClassId} {A : Nat → Prop} {h0 : Nat} {ad : Nat → Nat} {H0 : Heap} {u : iST}
def w_readWord_111 (Q : iST → Prop) (y1 : Int) (u : iST) : Prop :=
  w_begin y1 (fun u => 
  Q u) u
set_option maxRecDepth 20000 in
set_option maxHeartbeats 4000000 in
theorem b_readWord_111 (X : kX p m c cX12_readWord 6 s args D ca) (hRf : 6 ≤ R.frames) (hRl : 134 ≤ R.locals) {Q : iST → Prop} (hret : ∀ (u : iST) (H : Heap) (locs : List Loc) (ls : Array Slot) (pc : Nat), Q u → kW D ca A h0 ad H0 H locs u → decode cX12_readWord pc = .ok (.return_, 1) → W p l e R s m args below meth c H locs 0 0 Qf (F0 m pc ls [])) {y1 : Int} (ry1 : inR y1) (hw : kW D ca A h0 ad H0 H locs u) (hl : lv_has ls 6 [(0, .ref h0)]) (h : w_readWord_111 Q y1 u) : W p l e R s m args below meth c H locs 0 0 Qf (F0 m 111 ls [.int (jI y1), .ref (h0)]) := by
  have hx := X.1.1
  have hb := X.1.2.1
  unfold w_readWord_111 at h
  refine kcV (n := 1) (c_begin ry1 h) G_begin E_begin X hw (Nat.le_trans (Nat.le_of_ble_eq_true rfl) hRf) (Nat.le_trans (Nat.le_of_ble_eq_true rfl) hRl) rfl hl.1 (Nat.le_of_ble_eq_true rfl) rfl dX12_readWord_111 (fun u H locs h hw => ?_)
  refine lv_goto hx hb dX12_readWord_114 (tgt := 375) rfl ?_
  exact hret _ _ _ _ _ h hw dX12_readWord_375

def w_readWord_51 (Q : iST → Prop) (x2 : Int) (x3 : Int) (x4 : Int) (u : iST) : Prop :=
  w_mayBegin (fun v6 u => 
  br (v6 ≠ 0) (
    rd (u.1 30) (fun v7 => 
    br (v7 ≠ 40) (
      br (x4 = 0) (
        br (x3 ≠ 40) (
          w_readWord_111 Q 1 u) (
          w_readWord_111 Q 0 u)) (
        w_bad 5 x2 (fun u => 
        Q u) u)) (
      w_bad 4 x2 (fun u => 
      Q u) u))) (
    w_bad 3 x2 (fun u => 
    Q u) u)) u
set_option maxRecDepth 20000 in
set_option maxHeartbeats 4000000 in
theorem b_readWord_51 (X : kX p m c cX12_readWord 6 s args D ca) (hRf : 6 ≤ R.frames) (hRl : 134 ≤ R.locals) {Q : iST → Prop} (hret : ∀ (u : iST) (H : Heap) (locs : List Loc) (ls : Array Slot) (pc : Nat), Q u → kW D ca A h0 ad H0 H locs u → decode cX12_readWord pc = .ok (.return_, 1) → W p l e R s m args below meth c H locs 0 0 Qf (F0 m pc ls [])) {x2 x3 x4 : Int} (rx2 : inR x2) (rx3 : inR x3) (rx4 : inR x4) (hw : kW D ca A h0 ad H0 H locs u) (hl : lv_has ls 6 [(0, .ref h0), (2, .int (jI x2)), (3, .int (jI x3)), (4, .int (jI x4))]) (h : w_readWord_51 Q x2 x3 x4 u) : W p l e R s m args below meth c H locs 0 0 Qf (F0 m 51 ls []) := by
  have hx := X.1.1
  have hb := X.1.2.1
  unfold w_readWord_51 at h
  refine lv_aload_n hx hb dX12_readWord_51 rfl (lv_at hl 0 rfl) ?_
  refine kcI (n := 0) (c_mayBegin h) G_mayBegin E_mayBegin X hw (Nat.le_trans (Nat.le_of_ble_eq_true rfl) hRf) (Nat.le_trans (Nat.le_of_ble_eq_true rfl) hRl) rfl hl.1 (Nat.le_of_ble_eq_true rfl) rfl dX12_readWord_52 (fun v6 u H locs rv6 h hw => ?_)
  refine k_if_ne hx hb rv6 dX12_readWord_55 (tgt := 67) rfl h (fun h => ?_) (fun h => ?_)
  · refine lv_aload_n hx hb dX12_readWord_67 rfl (lv_at hl 0 rfl) ?_
    refine gS 30 380 (by decide) L_30 (fun _ _ => mF_30) rfl X hw dX12_readWord_68 h (fun v7 rv7 h => ?_)
    refine lv_bipush hx hb dX12_readWord_71 (v := jI 40) rfl ?_
    refine k_icmp_ne hx hb rv7 (by decide) dX12_readWord_73 (tgt := 85) rfl h (fun h => ?_) (fun h => ?_)
    · refine lv_iload hx hb dX12_readWord_85 (lv_at hl 3 rfl) ?_
      refine k_if_eq hx hb rx4 dX12_readWord_87 (tgt := 99) rfl h (fun h => ?_) (fun h => ?_)
      · refine lv_aload_n hx hb dX12_readWord_99 rfl (lv_at hl 0 rfl) ?_
        refine lv_iload_n hx hb dX12_readWord_100 rfl (lv_at hl 2 rfl) ?_
        refine lv_bipush hx hb dX12_readWord_101 (v := jI 40) rfl ?_
        refine k_icmp_ne hx hb rx3 (by decide) dX12_readWord_103 (tgt := 110) rfl h (fun h => ?_) (fun h => ?_)
        · refine lv_iconst hx hb dX12_readWord_110 (v := jI 1) rfl ?_
          exact b_readWord_111 X hRf hRl hret (by decide) hw (lv_sub hl [0] rfl) h
        · refine lv_iconst hx hb dX12_readWord_106 (v := jI 0) rfl ?_
          refine lv_goto hx hb dX12_readWord_107 (tgt := 111) rfl ?_
          exact b_readWord_111 X hRf hRl hret (by decide) hw (lv_sub hl [0] rfl) h
      · refine lv_aload_n hx hb dX12_readWord_90 rfl (lv_at hl 0 rfl) ?_
        refine lv_iconst hx hb dX12_readWord_91 (v := jI 5) rfl ?_
        refine lv_iload_n hx hb dX12_readWord_92 rfl (lv_at hl 1 rfl) ?_
        refine kcV (n := 2) (c_bad (by decide) rx2 h) G_bad E_bad X hw (Nat.le_trans (Nat.le_of_ble_eq_true rfl) hRf) (Nat.le_trans (Nat.le_of_ble_eq_true rfl) hRl) rfl hl.1 (Nat.le_of_ble_eq_true rfl) rfl dX12_readWord_93 (fun u H locs h hw => ?_)
        refine lv_goto hx hb dX12_readWord_96 (tgt := 375) rfl ?_
        exact hret _ _ _ _ _ h hw dX12_readWord_375
    · refine lv_aload_n hx hb dX12_readWord_76 rfl (lv_at hl 0 rfl) ?_
      refine lv_iconst hx hb dX12_readWord_77 (v := jI 4) rfl ?_
      refine lv_iload_n hx hb dX12_readWord_78 rfl (lv_at hl 1 rfl) ?_
      refine kcV (n := 2) (c_bad (by decide) rx2 h) G_bad E_bad X hw (Nat.le_trans (Nat.le_of_ble_eq_true rfl) hRf) (Nat.le_trans (Nat.le_of_ble_eq_true rfl) hRl) rfl hl.1 (Nat.le_of_ble_eq_true rfl) rfl dX12_readWord_79 (fun u H locs h hw => ?_)
      refine lv_goto hx hb dX12_readWord_82 (tgt := 375) rfl ?_
      exact hret _ _ _ _ _ h hw dX12_readWord_375
  · refine lv_aload_n hx hb dX12_readWord_58 rfl (lv_at hl 0 rfl) ?_
    refine lv_iconst hx hb dX12_readWord_59 (v := jI 3) rfl ?_
    refine lv_iload_n hx hb dX12_readWord_60 rfl (lv_at hl 1 rfl) ?_
    refine kcV (n := 2) (c_bad (by decide) rx2 h) G_bad E_bad X hw (Nat.le_trans (Nat.le_of_ble_eq_true rfl) hRf) (Nat.le_trans (Nat.le_of_ble_eq_true rfl) hRl) rfl hl.1 (Nat.le_of_ble_eq_true rfl) rfl dX12_readWord_61 (fun u H locs h hw => ?_)
    refine lv_goto hx hb dX12_readWord_64 (tgt := 375) rfl ?_
    exact hret _ _ _ _ _ h hw dX12_readWord_375

def w_readWord_313 (Q : iST → Prop) (x2 : Int) (x4 : Int) (u : iST) : Prop :=
  rd (u.1 23) (fun v15 => 
  w_atom x2 v15 (fun v16 u => 
  br (v16 ≠ (-1)) (
    w_mayBegin (fun v17 u => 
    br (v17 ≠ 0) (
      br (x4 = 0) (
        w_deliver v16 (fun u => 
        Q u) u) (
        w_bad 5 x2 (fun u => 
        Q u) u)) (
      w_bad 3 x2 (fun u => 
      Q u) u)) u) (
    w_bad 2 x2 (fun u => 
    Q u) u)) u)
set_option maxRecDepth 20000 in
set_option maxHeartbeats 4000000 in
theorem b_readWord_313 (X : kX p m c cX12_readWord 6 s args D ca) (hRf : 6 ≤ R.frames) (hRl : 134 ≤ R.locals) {Q : iST → Prop} (hret : ∀ (u : iST) (H : Heap) (locs : List Loc) (ls : Array Slot) (pc : Nat), Q u → kW D ca A h0 ad H0 H locs u → decode cX12_readWord pc = .ok (.return_, 1) → W p l e R s m args below meth c H locs 0 0 Qf (F0 m pc ls [])) {x2 x4 : Int} (rx2 : inR x2) (rx4 : inR x4) (hw : kW D ca A h0 ad H0 H locs u) (hl : lv_has ls 6 [(0, .ref h0), (2, .int (jI x2)), (4, .int (jI x4))]) (h : w_readWord_313 Q x2 x4 u) : W p l e R s m args below meth c H locs 0 0 Qf (F0 m 313 ls []) := by
  have hx := X.1.1
  have hb := X.1.2.1
  unfold w_readWord_313 at h
  refine lv_aload_n hx hb dX12_readWord_313 rfl (lv_at hl 0 rfl) ?_
  refine lv_iload_n hx hb dX12_readWord_314 rfl (lv_at hl 1 rfl) ?_
  refine lv_aload_n hx hb dX12_readWord_315 rfl (lv_at hl 0 rfl) ?_
  refine gS 23 371 (by decide) L_23 (fun _ _ => mF_23) rfl X hw dX12_readWord_316 h (fun v15 rv15 h => ?_)
  refine kcI (n := 2) (c_atom rx2 rv15 h) G_atom E_atom X hw (Nat.le_trans (Nat.le_of_ble_eq_true rfl) hRf) (Nat.le_trans (Nat.le_of_ble_eq_true rfl) hRl) rfl hl.1 (Nat.le_of_ble_eq_true rfl) rfl dX12_readWord_319 (fun v16 u H locs rv16 h hw => ?_)
  refine lv_istore hx hb dX12_readWord_322 hl (by decide) rfl (fun ls hl => ?_)
  have hl : lv_has ls 6 [(5, .int (jI v16)), (0, .ref (h0)), (2, .int (jI x2)), (4, .int (jI x4))] := hl
  refine lv_iload hx hb dX12_readWord_324 (lv_at hl 0 rfl) ?_
  refine lv_iconst hx hb dX12_readWord_326 (v := jI (-1)) rfl ?_
  refine k_icmp_ne hx hb rv16 (by decide) dX12_readWord_327 (tgt := 339) rfl h (fun h => ?_) (fun h => ?_)
  · refine lv_aload_n hx hb dX12_readWord_339 rfl (lv_at hl 1 rfl) ?_
    refine kcI (n := 0) (c_mayBegin h) G_mayBegin E_mayBegin X hw (Nat.le_trans (Nat.le_of_ble_eq_true rfl) hRf) (Nat.le_trans (Nat.le_of_ble_eq_true rfl) hRl) rfl hl.1 (Nat.le_of_ble_eq_true rfl) rfl dX12_readWord_340 (fun v17 u H locs rv17 h hw => ?_)
    refine k_if_ne hx hb rv17 dX12_readWord_343 (tgt := 355) rfl h (fun h => ?_) (fun h => ?_)
    · refine lv_iload hx hb dX12_readWord_355 (lv_at hl 3 rfl) ?_
      refine k_if_eq hx hb rx4 dX12_readWord_357 (tgt := 369) rfl h (fun h => ?_) (fun h => ?_)
      · refine lv_aload_n hx hb dX12_readWord_369 rfl (lv_at hl 1 rfl) ?_
        refine lv_iload hx hb dX12_readWord_370 (lv_at hl 0 rfl) ?_
        refine kcV (n := 1) (c_deliver rv16 h) G_deliver E_deliver X hw (Nat.le_trans (Nat.le_of_ble_eq_true rfl) hRf) (Nat.le_trans (Nat.le_of_ble_eq_true rfl) hRl) rfl hl.1 (Nat.le_of_ble_eq_true rfl) rfl dX12_readWord_372 (fun u H locs h hw => ?_)
        exact hret _ _ _ _ _ h hw dX12_readWord_375
      · refine lv_aload_n hx hb dX12_readWord_360 rfl (lv_at hl 1 rfl) ?_
        refine lv_iconst hx hb dX12_readWord_361 (v := jI 5) rfl ?_
        refine lv_iload_n hx hb dX12_readWord_362 rfl (lv_at hl 2 rfl) ?_
        refine kcV (n := 2) (c_bad (by decide) rx2 h) G_bad E_bad X hw (Nat.le_trans (Nat.le_of_ble_eq_true rfl) hRf) (Nat.le_trans (Nat.le_of_ble_eq_true rfl) hRl) rfl hl.1 (Nat.le_of_ble_eq_true rfl) rfl dX12_readWord_363 (fun u H locs h hw => ?_)
        refine lv_goto hx hb dX12_readWord_366 (tgt := 375) rfl ?_
        exact hret _ _ _ _ _ h hw dX12_readWord_375
    · refine lv_aload_n hx hb dX12_readWord_346 rfl (lv_at hl 1 rfl) ?_
      refine lv_iconst hx hb dX12_readWord_347 (v := jI 3) rfl ?_
      refine lv_iload_n hx hb dX12_readWord_348 rfl (lv_at hl 2 rfl) ?_
      refine kcV (n := 2) (c_bad (by decide) rx2 h) G_bad E_bad X hw (Nat.le_trans (Nat.le_of_ble_eq_true rfl) hRf) (Nat.le_trans (Nat.le_of_ble_eq_true rfl) hRl) rfl hl.1 (Nat.le_of_ble_eq_true rfl) rfl dX12_readWord_349 (fun u H locs h hw => ?_)
      refine lv_goto hx hb dX12_readWord_352 (tgt := 375) rfl ?_
      exact hret _ _ _ _ _ h hw dX12_readWord_375
  · refine lv_aload_n hx hb dX12_readWord_330 rfl (lv_at hl 1 rfl) ?_
    refine lv_iconst hx hb dX12_readWord_331 (v := jI 2) rfl ?_
    refine lv_iload_n hx hb dX12_readWord_332 rfl (lv_at hl 2 rfl) ?_
    refine kcV (n := 2) (c_bad (by decide) rx2 h) G_bad E_bad X hw (Nat.le_trans (Nat.le_of_ble_eq_true rfl) hRf) (Nat.le_trans (Nat.le_of_ble_eq_true rfl) hRl) rfl hl.1 (Nat.le_of_ble_eq_true rfl) rfl dX12_readWord_333 (fun u H locs h hw => ?_)
    refine lv_goto hx hb dX12_readWord_336 (tgt := 375) rfl ?_
    exact hret _ _ _ _ _ h hw dX12_readWord_375

def w_readWord_274b (R274 : Int → Int → iST → Prop) (Q : iST → Prop) (x2 : Int) (x4 : Int) (u : iST) : Prop :=
  rd (u.1 23) (fun v13 => 
  rd (u.1 14) (fun v14 => 
  br (v14 ≤ v13) (
    w_readWord_313 Q x2 x4 u) (
    rd (u.1 23) (fun v22 => 
    bd v22 3000 (rd (u.2.1 13 v22) (fun v23 => 
    w_isAtom v23 (fun v24 u => 
    br (v24 = 0) (
      w_readWord_313 Q x2 x4 u) (
      rd (u.1 23) (fun v25 => 
      ov (v25 + 1) (
      sw (iI u 23 (v25 + 1)) (fun u => 
      R274 x2 x4 u))))) u))))))
def w_readWord_274 (Q : iST → Prop) (x2 : Int) (x4 : Int) (u : iST) : Prop := ∀ R274 : Int → Int → iST → Prop, (∀ (x2 : Int) (x4 : Int) (u : iST), w_readWord_274b R274 Q x2 x4 u → R274 x2 x4 u) → R274 x2 x4 u
set_option maxRecDepth 20000 in
set_option maxHeartbeats 4000000 in
theorem b_readWord_274 (X : kX p m c cX12_readWord 6 s args D ca) (hRf : 6 ≤ R.frames) (hRl : 134 ≤ R.locals) {Q : iST → Prop} (hret : ∀ (u : iST) (H : Heap) (locs : List Loc) (ls : Array Slot) (pc : Nat), Q u → kW D ca A h0 ad H0 H locs u → decode cX12_readWord pc = .ok (.return_, 1) → W p l e R s m args below meth c H locs 0 0 Qf (F0 m pc ls [])) {x2 x4 : Int} (rx2 : inR x2) (rx4 : inR x4) (hw : kW D ca A h0 ad H0 H locs u) (hl : lv_has ls 6 [(0, .ref h0), (2, .int (jI x2)), (4, .int (jI x4))]) (h : w_readWord_274 Q x2 x4 u) : W p l e R s m args below meth c H locs 0 0 Qf (F0 m 274 ls []) := by
  refine h (fun x2 x4 u => ∀ (H : Heap) (locs : List Loc) (ls : Array Slot), inR x2 → inR x4 → kW D ca A h0 ad H0 H locs u → lv_has ls 6 [(0, .ref h0), (2, .int (jI x2)), (4, .int (jI x4))] → W p l e R s m args below meth c H locs 0 0 Qf (F0 m 274 ls [])) ?_ H locs ls rx2 rx4 hw hl
  clear h hl hw rx2 rx4
  intro x2 x4 u h H locs ls rx2 rx4 hw hl
  have hR274 : ∀ (x2 : Int) (x4 : Int) (u : iST) (H : Heap) (locs : List Loc) (ls : Array Slot), inR x2 → inR x4 → kW D ca A h0 ad H0 H locs u → lv_has ls 6 [(0, .ref h0), (2, .int (jI x2)), (4, .int (jI x4))] → (fun (x2 : Int) (x4 : Int) u => ∀ (H : Heap) (locs : List Loc) (ls : Array Slot), inR x2 → inR x4 → kW D ca A h0 ad H0 H locs u → lv_has ls 6 [(0, .ref h0), (2, .int (jI x2)), (4, .int (jI x4))] → W p l e R s m args below meth c H locs 0 0 Qf (F0 m 274 ls [])) x2 x4 u → W p l e R s m args below meth c H locs 0 0 Qf (F0 m 274 ls []) := fun x2 x4 u H locs ls rx2 rx4 hw hl h => h H locs ls rx2 rx4 hw hl
  have hx := X.1.1
  have hb := X.1.2.1
  unfold w_readWord_274b at h
  refine lv_aload_n hx hb dX12_readWord_274 rfl (lv_at hl 0 rfl) ?_
  refine gS 23 371 (by decide) L_23 (fun _ _ => mF_23) rfl X hw dX12_readWord_275 h (fun v13 rv13 h => ?_)
  refine lv_aload_n hx hb dX12_readWord_278 rfl (lv_at hl 0 rfl) ?_
  refine gS 14 374 (by decide) L_14 (fun _ _ => mF_14) rfl X hw dX12_readWord_279 h (fun v14 rv14 h => ?_)
  refine k_icmp_ge hx hb rv13 rv14 dX12_readWord_282 (tgt := 313) rfl h (fun h => ?_) (fun h => ?_)
  · exact b_readWord_313 X hRf hRl hret rx2 rx4 hw hl h
  · refine lv_aload_n hx hb dX12_readWord_285 rfl (lv_at hl 0 rfl) ?_
    refine gA 13 44 (by decide) L_13 (fun _ _ => mF_13) rfl X hw dX12_readWord_286 ?_
    refine lv_aload_n hx hb dX12_readWord_289 rfl (lv_at hl 0 rfl) ?_
    refine gS 23 371 (by decide) L_23 (fun _ _ => mF_23) rfl X hw dX12_readWord_290 h (fun v22 rv22 h => ?_)
    refine aL 13 11 10 3000 (fun _ _ _ _ => mG_13) (fun _ => rfl) X hw rv22 dX12_readWord_293 rfl h (fun v23 rv23 h => ?_)
    refine kcT (n := 1) (c_isAtom rv23 h) G_isAtom E_isAtom X hw (Nat.le_trans (Nat.le_of_ble_eq_true rfl) hRf) (Nat.le_trans (Nat.le_of_ble_eq_true rfl) hRl) rfl hl.1 (Nat.le_of_ble_eq_true rfl) rfl dX12_readWord_294 (fun v24 u H locs rv24 h hw => ?_)
    refine k_if_eq hx hb rv24 dX12_readWord_297 (tgt := 313) rfl h (fun h => ?_) (fun h => ?_)
    · exact b_readWord_313 X hRf hRl hret rx2 rx4 hw hl h
    · refine lv_aload_n hx hb dX12_readWord_300 rfl (lv_at hl 0 rfl) ?_
      refine lv_dup hx hb dX12_readWord_301 rfl ?_
      refine gS 23 371 (by decide) L_23 (fun _ _ => mF_23) rfl X hw dX12_readWord_302 h (fun v25 rv25 h => ?_)
      refine lv_iconst hx hb dX12_readWord_305 (v := jI 1) rfl ?_
      refine k_iadd hx hb dX12_readWord_306 h (fun r26 h => ?_)
      refine pS 23 371 (by decide) L_23 rfl rfl rfl (fun _ _ _ _ _ => mSI_23) (by decide) X hw r26 dX12_readWord_307 h (fun H locs u hw h => ?_)
      refine lv_goto hx hb dX12_readWord_310 (tgt := 274) rfl ?_
      exact hR274 _ _ _ H locs ls rx2 rx4 hw hl h

def w_readWord_220 (Q : iST → Prop) (x2 : Int) (u : iST) : Prop :=
  w_bad 3 x2 (fun u => 
  Q u) u
set_option maxRecDepth 20000 in
set_option maxHeartbeats 4000000 in
theorem b_readWord_220 (X : kX p m c cX12_readWord 6 s args D ca) (hRf : 6 ≤ R.frames) (hRl : 134 ≤ R.locals) {Q : iST → Prop} (hret : ∀ (u : iST) (H : Heap) (locs : List Loc) (ls : Array Slot) (pc : Nat), Q u → kW D ca A h0 ad H0 H locs u → decode cX12_readWord pc = .ok (.return_, 1) → W p l e R s m args below meth c H locs 0 0 Qf (F0 m pc ls [])) {x2 : Int} (rx2 : inR x2) (hw : kW D ca A h0 ad H0 H locs u) (hl : lv_has ls 6 [(0, .ref h0), (2, .int (jI x2))]) (h : w_readWord_220 Q x2 u) : W p l e R s m args below meth c H locs 0 0 Qf (F0 m 220 ls []) := by
  have hx := X.1.1
  have hb := X.1.2.1
  unfold w_readWord_220 at h
  refine lv_aload_n hx hb dX12_readWord_220 rfl (lv_at hl 0 rfl) ?_
  refine lv_iconst hx hb dX12_readWord_221 (v := jI 3) rfl ?_
  refine lv_iload_n hx hb dX12_readWord_222 rfl (lv_at hl 1 rfl) ?_
  refine kcV (n := 2) (c_bad (by decide) rx2 h) G_bad E_bad X hw (Nat.le_trans (Nat.le_of_ble_eq_true rfl) hRf) (Nat.le_trans (Nat.le_of_ble_eq_true rfl) hRl) rfl hl.1 (Nat.le_of_ble_eq_true rfl) rfl dX12_readWord_223 (fun u H locs h hw => ?_)
  refine lv_goto hx hb dX12_readWord_226 (tgt := 375) rfl ?_
  exact hret _ _ _ _ _ h hw dX12_readWord_375

def w_readWord_145 (Q : iST → Prop) (x2 : Int) (u : iST) : Prop :=
  w_bad 3 x2 (fun u => 
  Q u) u
set_option maxRecDepth 20000 in
set_option maxHeartbeats 4000000 in
theorem b_readWord_145 (X : kX p m c cX12_readWord 6 s args D ca) (hRf : 6 ≤ R.frames) (hRl : 134 ≤ R.locals) {Q : iST → Prop} (hret : ∀ (u : iST) (H : Heap) (locs : List Loc) (ls : Array Slot) (pc : Nat), Q u → kW D ca A h0 ad H0 H locs u → decode cX12_readWord pc = .ok (.return_, 1) → W p l e R s m args below meth c H locs 0 0 Qf (F0 m pc ls [])) {x2 : Int} (rx2 : inR x2) (hw : kW D ca A h0 ad H0 H locs u) (hl : lv_has ls 6 [(0, .ref h0), (2, .int (jI x2))]) (h : w_readWord_145 Q x2 u) : W p l e R s m args below meth c H locs 0 0 Qf (F0 m 145 ls []) := by
  have hx := X.1.1
  have hb := X.1.2.1
  unfold w_readWord_145 at h
  refine lv_aload_n hx hb dX12_readWord_145 rfl (lv_at hl 0 rfl) ?_
  refine lv_iconst hx hb dX12_readWord_146 (v := jI 3) rfl ?_
  refine lv_iload_n hx hb dX12_readWord_147 rfl (lv_at hl 1 rfl) ?_
  refine kcV (n := 2) (c_bad (by decide) rx2 h) G_bad E_bad X hw (Nat.le_trans (Nat.le_of_ble_eq_true rfl) hRf) (Nat.le_trans (Nat.le_of_ble_eq_true rfl) hRl) rfl hl.1 (Nat.le_of_ble_eq_true rfl) rfl dX12_readWord_148 (fun u H locs h hw => ?_)
  refine lv_goto hx hb dX12_readWord_151 (tgt := 375) rfl ?_
  exact hret _ _ _ _ _ h hw dX12_readWord_375

def w_readWord_27 (Q : iST → Prop) (x2 : Int) (x3 : Int) (y0 : Int) (u : iST) : Prop :=
  rd (u.1 23) (fun v4 => 
  ov (v4 + 1) (
  sw (iI u 23 (v4 + 1)) (fun u => 
  br (x3 = 40) (
    w_readWord_51 Q x2 x3 y0 u) (
    br (x3 ≠ 39) (
      br (x3 ≠ 41) (
        br (x3 ≠ 46) (
          w_isAtom x3 (fun v12 u => 
          br (v12 ≠ 0) (
            w_readWord_274 Q x2 y0 u) (
            w_bad 1 x2 (fun u => 
            Q u) u)) u) (
          w_isInList (fun v28 u => 
          br (v28 = 0) (
            w_readWord_220 Q x2 u) (
            rd (u.1 30) (fun v30 => 
            ov (v30 - 1) (
            bd (v30 - 1) 40 (rd (u.2.1 28 (v30 - 1)) (fun v32 => 
            br (v32 ≠ 0) (
              w_readWord_220 Q x2 u) (
              rd (u.1 32) (fun v33 => 
              rd (u.1 30) (fun v34 => 
              ov (v34 - 1) (
              bd (v34 - 1) 40 (rd (u.2.1 27 (v34 - 1)) (fun v36 => 
              br (v33 ≠ v36) (
                br (y0 = 0) (
                  rd (u.1 30) (fun v37 => 
                  ov (v37 - 1) (
                  bd (v37 - 1) 40 (sw (iA u 28 (v37 - 1) 1) (fun u => 
                  Q u))))) (
                  w_bad 5 x2 (fun u => 
                  Q u) u)) (
                w_readWord_220 Q x2 u))))))))))))) u)) (
        w_isInList (fun v40 u => 
        br (v40 = 0) (
          w_readWord_145 Q x2 u) (
          rd (u.1 30) (fun v42 => 
          ov (v42 - 1) (
          bd (v42 - 1) 40 (rd (u.2.1 28 (v42 - 1)) (fun v44 => 
          br (v44 ≠ 1) (
            br (y0 = 0) (
              w_close (fun u => 
              Q u) u) (
              w_bad 5 x2 (fun u => 
              Q u) u)) (
            w_readWord_145 Q x2 u))))))) u)) (
      w_readWord_51 Q x2 x3 y0 u)))))
set_option maxRecDepth 20000 in
set_option maxHeartbeats 4000000 in
theorem b_readWord_27 (X : kX p m c cX12_readWord 6 s args D ca) (hRf : 6 ≤ R.frames) (hRl : 134 ≤ R.locals) {Q : iST → Prop} (hret : ∀ (u : iST) (H : Heap) (locs : List Loc) (ls : Array Slot) (pc : Nat), Q u → kW D ca A h0 ad H0 H locs u → decode cX12_readWord pc = .ok (.return_, 1) → W p l e R s m args below meth c H locs 0 0 Qf (F0 m pc ls [])) {x2 x3 y0 : Int} (rx2 : inR x2) (rx3 : inR x3) (ry0 : inR y0) (hw : kW D ca A h0 ad H0 H locs u) (hl : lv_has ls 6 [(0, .ref h0), (2, .int (jI x2)), (3, .int (jI x3))]) (h : w_readWord_27 Q x2 x3 y0 u) : W p l e R s m args below meth c H locs 0 0 Qf (F0 m 27 ls [.int (jI y0)]) := by
  have hx := X.1.1
  have hb := X.1.2.1
  unfold w_readWord_27 at h
  refine lv_istore hx hb dX12_readWord_27 hl (by decide) rfl (fun ls hl => ?_)
  have hl : lv_has ls 6 [(4, .int (jI y0)), (0, .ref (h0)), (2, .int (jI x2)), (3, .int (jI x3))] := hl
  refine lv_aload_n hx hb dX12_readWord_29 rfl (lv_at hl 1 rfl) ?_
  refine lv_dup hx hb dX12_readWord_30 rfl ?_
  refine gS 23 371 (by decide) L_23 (fun _ _ => mF_23) rfl X hw dX12_readWord_31 h (fun v4 rv4 h => ?_)
  refine lv_iconst hx hb dX12_readWord_34 (v := jI 1) rfl ?_
  refine k_iadd hx hb dX12_readWord_35 h (fun r5 h => ?_)
  refine pS 23 371 (by decide) L_23 rfl rfl rfl (fun _ _ _ _ _ => mSI_23) (by decide) X hw r5 dX12_readWord_36 h (fun H locs u hw h => ?_)
  refine lv_iload_n hx hb dX12_readWord_39 rfl (lv_at hl 3 rfl) ?_
  refine lv_bipush hx hb dX12_readWord_40 (v := jI 40) rfl ?_
  refine k_icmp_eq hx hb rx3 (by decide) dX12_readWord_42 (tgt := 51) rfl h (fun h => ?_) (fun h => ?_)
  · exact b_readWord_51 X hRf hRl hret rx2 rx3 ry0 hw (lv_sub hl [1, 2, 3, 0] rfl) h
  · refine lv_iload_n hx hb dX12_readWord_45 rfl (lv_at hl 3 rfl) ?_
    refine lv_bipush hx hb dX12_readWord_46 (v := jI 39) rfl ?_
    refine k_icmp_ne hx hb rx3 (by decide) dX12_readWord_48 (tgt := 117) rfl h (fun h => ?_) (fun h => ?_)
    · refine lv_iload_n hx hb dX12_readWord_117 rfl (lv_at hl 3 rfl) ?_
      refine lv_bipush hx hb dX12_readWord_118 (v := jI 41) rfl ?_
      refine k_icmp_ne hx hb rx3 (by decide) dX12_readWord_120 (tgt := 175) rfl h (fun h => ?_) (fun h => ?_)
      · refine lv_iload_n hx hb dX12_readWord_175 rfl (lv_at hl 3 rfl) ?_
        refine lv_bipush hx hb dX12_readWord_176 (v := jI 46) rfl ?_
        refine k_icmp_ne hx hb rx3 (by decide) dX12_readWord_178 (tgt := 258) rfl h (fun h => ?_) (fun h => ?_)
        · refine lv_iload_n hx hb dX12_readWord_258 rfl (lv_at hl 3 rfl) ?_
          refine kcT (n := 1) (c_isAtom rx3 h) G_isAtom E_isAtom X hw (Nat.le_trans (Nat.le_of_ble_eq_true rfl) hRf) (Nat.le_trans (Nat.le_of_ble_eq_true rfl) hRl) rfl hl.1 (Nat.le_of_ble_eq_true rfl) rfl dX12_readWord_259 (fun v12 u H locs rv12 h hw => ?_)
          refine k_if_ne hx hb rv12 dX12_readWord_262 (tgt := 274) rfl h (fun h => ?_) (fun h => ?_)
          · exact b_readWord_274 X hRf hRl hret rx2 ry0 hw (lv_sub hl [1, 2, 0] rfl) h
          · refine lv_aload_n hx hb dX12_readWord_265 rfl (lv_at hl 1 rfl) ?_
            refine lv_iconst hx hb dX12_readWord_266 (v := jI 1) rfl ?_
            refine lv_iload_n hx hb dX12_readWord_267 rfl (lv_at hl 2 rfl) ?_
            refine kcV (n := 2) (c_bad (by decide) rx2 h) G_bad E_bad X hw (Nat.le_trans (Nat.le_of_ble_eq_true rfl) hRf) (Nat.le_trans (Nat.le_of_ble_eq_true rfl) hRl) rfl hl.1 (Nat.le_of_ble_eq_true rfl) rfl dX12_readWord_268 (fun u H locs h hw => ?_)
            refine lv_goto hx hb dX12_readWord_271 (tgt := 375) rfl ?_
            exact hret _ _ _ _ _ h hw dX12_readWord_375
        · refine lv_aload_n hx hb dX12_readWord_181 rfl (lv_at hl 1 rfl) ?_
          refine kcI (n := 0) (c_isInList h) G_isInList E_isInList X hw (Nat.le_trans (Nat.le_of_ble_eq_true rfl) hRf) (Nat.le_trans (Nat.le_of_ble_eq_true rfl) hRl) rfl hl.1 (Nat.le_of_ble_eq_true rfl) rfl dX12_readWord_182 (fun v28 u H locs rv28 h hw => ?_)
          refine k_if_eq hx hb rv28 dX12_readWord_185 (tgt := 220) rfl h (fun h => ?_) (fun h => ?_)
          · exact b_readWord_220 X hRf hRl hret rx2 hw (lv_sub hl [1, 2] rfl) h
          · refine lv_aload_n hx hb dX12_readWord_188 rfl (lv_at hl 1 rfl) ?_
            refine gA 28 69 (by decide) L_28 (fun _ _ => mF_28) rfl X hw dX12_readWord_189 ?_
            refine lv_aload_n hx hb dX12_readWord_192 rfl (lv_at hl 1 rfl) ?_
            refine gS 30 380 (by decide) L_30 (fun _ _ => mF_30) rfl X hw dX12_readWord_193 h (fun v30 rv30 h => ?_)
            refine lv_iconst hx hb dX12_readWord_196 (v := jI 1) rfl ?_
            refine k_isub hx hb dX12_readWord_197 h (fun r31 h => ?_)
            refine aL 28 18 17 40 (fun _ _ _ _ => mG_28) (fun _ => rfl) X hw r31 dX12_readWord_198 rfl h (fun v32 rv32 h => ?_)
            refine k_if_ne hx hb rv32 dX12_readWord_199 (tgt := 220) rfl h (fun h => ?_) (fun h => ?_)
            · exact b_readWord_220 X hRf hRl hret rx2 hw (lv_sub hl [1, 2] rfl) h
            · refine lv_aload_n hx hb dX12_readWord_202 rfl (lv_at hl 1 rfl) ?_
              refine gS 32 387 (by decide) L_32 (fun _ _ => mF_32) rfl X hw dX12_readWord_203 h (fun v33 rv33 h => ?_)
              refine lv_aload_n hx hb dX12_readWord_206 rfl (lv_at hl 1 rfl) ?_
              refine gA 27 66 (by decide) L_27 (fun _ _ => mF_27) rfl X hw dX12_readWord_207 ?_
              refine lv_aload_n hx hb dX12_readWord_210 rfl (lv_at hl 1 rfl) ?_
              refine gS 30 380 (by decide) L_30 (fun _ _ => mF_30) rfl X hw dX12_readWord_211 h (fun v34 rv34 h => ?_)
              refine lv_iconst hx hb dX12_readWord_214 (v := jI 1) rfl ?_
              refine k_isub hx hb dX12_readWord_215 h (fun r35 h => ?_)
              refine aL 27 17 16 40 (fun _ _ _ _ => mG_27) (fun _ => rfl) X hw r35 dX12_readWord_216 rfl h (fun v36 rv36 h => ?_)
              refine k_icmp_ne hx hb rv33 rv36 dX12_readWord_217 (tgt := 229) rfl h (fun h => ?_) (fun h => ?_)
              · refine lv_iload hx hb dX12_readWord_229 (lv_at hl 0 rfl) ?_
                refine k_if_eq hx hb ry0 dX12_readWord_231 (tgt := 243) rfl h (fun h => ?_) (fun h => ?_)
                · refine lv_aload_n hx hb dX12_readWord_243 rfl (lv_at hl 1 rfl) ?_
                  refine gA 28 69 (by decide) L_28 (fun _ _ => mF_28) rfl X hw dX12_readWord_244 ?_
                  refine lv_aload_n hx hb dX12_readWord_247 rfl (lv_at hl 1 rfl) ?_
                  refine gS 30 380 (by decide) L_30 (fun _ _ => mF_30) rfl X hw dX12_readWord_248 h (fun v37 rv37 h => ?_)
                  refine lv_iconst hx hb dX12_readWord_251 (v := jI 1) rfl ?_
                  refine k_isub hx hb dX12_readWord_252 h (fun r38 h => ?_)
                  refine lv_iconst hx hb dX12_readWord_253 (v := jI 1) rfl ?_
                  refine aS 28 18 17 40 (fun _ _ _ _ => mG_28) (fun _ => rfl) (fun _ _ _ _ _ _ => mSA_28) (by decide) X hw r38 (by decide) dX12_readWord_254 rfl h (fun H locs u hw h => ?_)
                  refine lv_goto hx hb dX12_readWord_255 (tgt := 375) rfl ?_
                  exact hret _ _ _ _ _ h hw dX12_readWord_375
                · refine lv_aload_n hx hb dX12_readWord_234 rfl (lv_at hl 1 rfl) ?_
                  refine lv_iconst hx hb dX12_readWord_235 (v := jI 5) rfl ?_
                  refine lv_iload_n hx hb dX12_readWord_236 rfl (lv_at hl 2 rfl) ?_
                  refine kcV (n := 2) (c_bad (by decide) rx2 h) G_bad E_bad X hw (Nat.le_trans (Nat.le_of_ble_eq_true rfl) hRf) (Nat.le_trans (Nat.le_of_ble_eq_true rfl) hRl) rfl hl.1 (Nat.le_of_ble_eq_true rfl) rfl dX12_readWord_237 (fun u H locs h hw => ?_)
                  refine lv_goto hx hb dX12_readWord_240 (tgt := 375) rfl ?_
                  exact hret _ _ _ _ _ h hw dX12_readWord_375
              · exact b_readWord_220 X hRf hRl hret rx2 hw (lv_sub hl [1, 2] rfl) h
      · refine lv_aload_n hx hb dX12_readWord_123 rfl (lv_at hl 1 rfl) ?_
        refine kcI (n := 0) (c_isInList h) G_isInList E_isInList X hw (Nat.le_trans (Nat.le_of_ble_eq_true rfl) hRf) (Nat.le_trans (Nat.le_of_ble_eq_true rfl) hRl) rfl hl.1 (Nat.le_of_ble_eq_true rfl) rfl dX12_readWord_124 (fun v40 u H locs rv40 h hw => ?_)
        refine k_if_eq hx hb rv40 dX12_readWord_127 (tgt := 145) rfl h (fun h => ?_) (fun h => ?_)
        · exact b_readWord_145 X hRf hRl hret rx2 hw (lv_sub hl [1, 2] rfl) h
        · refine lv_aload_n hx hb dX12_readWord_130 rfl (lv_at hl 1 rfl) ?_
          refine gA 28 69 (by decide) L_28 (fun _ _ => mF_28) rfl X hw dX12_readWord_131 ?_
          refine lv_aload_n hx hb dX12_readWord_134 rfl (lv_at hl 1 rfl) ?_
          refine gS 30 380 (by decide) L_30 (fun _ _ => mF_30) rfl X hw dX12_readWord_135 h (fun v42 rv42 h => ?_)
          refine lv_iconst hx hb dX12_readWord_138 (v := jI 1) rfl ?_
          refine k_isub hx hb dX12_readWord_139 h (fun r43 h => ?_)
          refine aL 28 18 17 40 (fun _ _ _ _ => mG_28) (fun _ => rfl) X hw r43 dX12_readWord_140 rfl h (fun v44 rv44 h => ?_)
          refine lv_iconst hx hb dX12_readWord_141 (v := jI 1) rfl ?_
          refine k_icmp_ne hx hb rv44 (by decide) dX12_readWord_142 (tgt := 154) rfl h (fun h => ?_) (fun h => ?_)
          · refine lv_iload hx hb dX12_readWord_154 (lv_at hl 0 rfl) ?_
            refine k_if_eq hx hb ry0 dX12_readWord_156 (tgt := 168) rfl h (fun h => ?_) (fun h => ?_)
            · refine lv_aload_n hx hb dX12_readWord_168 rfl (lv_at hl 1 rfl) ?_
              refine kcV (n := 0) (c_close h) G_close E_close X hw (Nat.le_trans (Nat.le_of_ble_eq_true rfl) hRf) (Nat.le_trans (Nat.le_of_ble_eq_true rfl) hRl) rfl hl.1 (Nat.le_of_ble_eq_true rfl) rfl dX12_readWord_169 (fun u H locs h hw => ?_)
              refine lv_goto hx hb dX12_readWord_172 (tgt := 375) rfl ?_
              exact hret _ _ _ _ _ h hw dX12_readWord_375
            · refine lv_aload_n hx hb dX12_readWord_159 rfl (lv_at hl 1 rfl) ?_
              refine lv_iconst hx hb dX12_readWord_160 (v := jI 5) rfl ?_
              refine lv_iload_n hx hb dX12_readWord_161 rfl (lv_at hl 2 rfl) ?_
              refine kcV (n := 2) (c_bad (by decide) rx2 h) G_bad E_bad X hw (Nat.le_trans (Nat.le_of_ble_eq_true rfl) hRf) (Nat.le_trans (Nat.le_of_ble_eq_true rfl) hRl) rfl hl.1 (Nat.le_of_ble_eq_true rfl) rfl dX12_readWord_162 (fun u H locs h hw => ?_)
              refine lv_goto hx hb dX12_readWord_165 (tgt := 375) rfl ?_
              exact hret _ _ _ _ _ h hw dX12_readWord_375
          · exact b_readWord_145 X hRf hRl hret rx2 hw (lv_sub hl [1, 2] rfl) h
    · exact b_readWord_51 X hRf hRl hret rx2 rx3 ry0 hw (lv_sub hl [1, 2, 3, 0] rfl) h

def w_readWord (a0 : Int) (Q : iST → Prop) (u : iST) : Prop :=
  rd (u.1 23) (fun v1 => 
  rd (u.1 23) (fun v2 => 
  bd v2 3000 (rd (u.2.1 13 v2) (fun v3 => 
  br (a0 ≤ 1000) (
    w_readWord_27 Q v1 v3 0 u) (
    w_readWord_27 Q v1 v3 1 u)))))
set_option maxRecDepth 20000 in
set_option maxHeartbeats 4000000 in
theorem b_readWord_s (X : kX p m c cX12_readWord 6 s args D ca) (hRf : 6 ≤ R.frames) (hRl : 134 ≤ R.locals) {Q : iST → Prop} (hret : ∀ (u : iST) (H : Heap) (locs : List Loc) (ls : Array Slot) (pc : Nat), Q u → kW D ca A h0 ad H0 H locs u → decode cX12_readWord pc = .ok (.return_, 1) → W p l e R s m args below meth c H locs 0 0 Qf (F0 m pc ls [])) {a0 : Int} (ra0 : inR a0) (hw : kW D ca A h0 ad H0 H locs u) (hl : lv_has ls 6 [(0, .ref h0), (1, .int (jI a0))]) (h : w_readWord a0 Q u) : W p l e R s m args below meth c H locs 0 0 Qf (F0 m 0 ls []) := by
  have hx := X.1.1
  have hb := X.1.2.1
  unfold w_readWord at h
  refine lv_aload_n hx hb dX12_readWord_0 rfl (lv_at hl 0 rfl) ?_
  refine gS 23 371 (by decide) L_23 (fun _ _ => mF_23) rfl X hw dX12_readWord_1 h (fun v1 rv1 h => ?_)
  refine lv_istore_n hx hb dX12_readWord_4 rfl hl (by decide) rfl (fun ls hl => ?_)
  have hl : lv_has ls 6 [(2, .int (jI v1)), (0, .ref (h0)), (1, .int (jI a0))] := hl
  refine lv_aload_n hx hb dX12_readWord_5 rfl (lv_at hl 1 rfl) ?_
  refine gA 13 44 (by decide) L_13 (fun _ _ => mF_13) rfl X hw dX12_readWord_6 ?_
  refine lv_aload_n hx hb dX12_readWord_9 rfl (lv_at hl 1 rfl) ?_
  refine gS 23 371 (by decide) L_23 (fun _ _ => mF_23) rfl X hw dX12_readWord_10 h (fun v2 rv2 h => ?_)
  refine aL 13 11 10 3000 (fun _ _ _ _ => mG_13) (fun _ => rfl) X hw rv2 dX12_readWord_13 rfl h (fun v3 rv3 h => ?_)
  refine lv_istore_n hx hb dX12_readWord_14 rfl hl (by decide) rfl (fun ls hl => ?_)
  have hl : lv_has ls 6 [(3, .int (jI v3)), (2, .int (jI v1)), (0, .ref (h0)), (1, .int (jI a0))] := hl
  refine lv_iload_n hx hb dX12_readWord_15 rfl (lv_at hl 3 rfl) ?_
  refine lv_sipush hx hb dX12_readWord_16 (v := jI 1000) rfl ?_
  refine k_icmp_le hx hb ra0 (by decide) dX12_readWord_19 (tgt := 26) rfl h (fun h => ?_) (fun h => ?_)
  · refine lv_iconst hx hb dX12_readWord_26 (v := jI 0) rfl ?_
    exact b_readWord_27 X hRf hRl hret rv1 rv3 (by decide) hw (lv_sub hl [2, 1, 0] rfl) h
  · refine lv_iconst hx hb dX12_readWord_22 (v := jI 1) rfl ?_
    refine lv_goto hx hb dX12_readWord_23 (tgt := 27) rfl ?_
    exact b_readWord_27 X hRf hRl hret rv1 rv3 (by decide) hw (lv_sub hl [2, 1, 0] rfl) h

end
theorem c_readWord {l : Launch} {a0 : Int} (ra0 : inR a0) {Q : iST → Prop} {u : iST} (h : w_readWord a0 Q u) : kMV l yX12_readWord (.code yX12_readWord cX12_readWord 6 none :: wsM) { frames := 6, cells := 0, slots := 0, locals := 134 } [.int (jI a0)] Q u := kMV_of rfl (fun _ => Nat.le_of_ble_eq_true rfl) (fun X hRf hRl hret hw hl => b_readWord_s X hRf hRl hret ra0 hw hl h)

/-! reads -/
theorem dX12_reads_0 : decode cX12_reads 0 = .ok (.aload_n 0, 1) := by decide +kernel
theorem dX12_reads_1 : decode cX12_reads 1 = .ok (.iconst 0, 1) := by decide +kernel
theorem dX12_reads_2 : decode cX12_reads 2 = .ok (.putfield 371, 3) := by decide +kernel
theorem dX12_reads_5 : decode cX12_reads 5 = .ok (.aload_n 0, 1) := by decide +kernel
theorem dX12_reads_6 : decode cX12_reads 6 = .ok (.iconst 0, 1) := by decide +kernel
theorem dX12_reads_7 : decode cX12_reads 7 = .ok (.putfield 380, 3) := by decide +kernel
theorem dX12_reads_10 : decode cX12_reads 10 = .ok (.aload_n 0, 1) := by decide +kernel
theorem dX12_reads_11 : decode cX12_reads 11 = .ok (.iconst 0, 1) := by decide +kernel
theorem dX12_reads_12 : decode cX12_reads 12 = .ok (.putfield 387, 3) := by decide +kernel
theorem dX12_reads_15 : decode cX12_reads 15 = .ok (.aload_n 0, 1) := by decide +kernel
theorem dX12_reads_16 : decode cX12_reads 16 = .ok (.iconst 0, 1) := by decide +kernel
theorem dX12_reads_17 : decode cX12_reads 17 = .ok (.putfield 383, 3) := by decide +kernel
theorem dX12_reads_20 : decode cX12_reads 20 = .ok (.aload_n 0, 1) := by decide +kernel
theorem dX12_reads_21 : decode cX12_reads 21 = .ok (.iconst 0, 1) := by decide +kernel
theorem dX12_reads_22 : decode cX12_reads 22 = .ok (.putfield 377, 3) := by decide +kernel
theorem dX12_reads_25 : decode cX12_reads 25 = .ok (.aload_n 0, 1) := by decide +kernel
theorem dX12_reads_26 : decode cX12_reads 26 = .ok (.iconst (-1), 1) := by decide +kernel
theorem dX12_reads_27 : decode cX12_reads 27 = .ok (.putfield 59, 3) := by decide +kernel
theorem dX12_reads_30 : decode cX12_reads 30 = .ok (.iconst 0, 1) := by decide +kernel
theorem dX12_reads_31 : decode cX12_reads 31 = .ok (.istore_n 1, 1) := by decide +kernel
theorem dX12_reads_32 : decode cX12_reads 32 = .ok (.aload_n 0, 1) := by decide +kernel
theorem dX12_reads_33 : decode cX12_reads 33 = .ok (.invokevirtual 429, 3) := by decide +kernel
theorem dX12_reads_36 : decode cX12_reads 36 = .ok (.aload_n 0, 1) := by decide +kernel
theorem dX12_reads_37 : decode cX12_reads 37 = .ok (.getfield 377, 3) := by decide +kernel
theorem dX12_reads_40 : decode cX12_reads 40 = .ok (.ifCond .ne 29, 3) := by decide +kernel
theorem dX12_reads_43 : decode cX12_reads 43 = .ok (.aload_n 0, 1) := by decide +kernel
theorem dX12_reads_44 : decode cX12_reads 44 = .ok (.getfield 371, 3) := by decide +kernel
theorem dX12_reads_47 : decode cX12_reads 47 = .ok (.aload_n 0, 1) := by decide +kernel
theorem dX12_reads_48 : decode cX12_reads 48 = .ok (.getfield 374, 3) := by decide +kernel
theorem dX12_reads_51 : decode cX12_reads 51 = .ok (.if_icmp .ge 18, 3) := by decide +kernel
theorem dX12_reads_54 : decode cX12_reads 54 = .ok (.iinc 1 1, 3) := by decide +kernel
theorem dX12_reads_57 : decode cX12_reads 57 = .ok (.aload_n 0, 1) := by decide +kernel
theorem dX12_reads_58 : decode cX12_reads 58 = .ok (.iload_n 1, 1) := by decide +kernel
theorem dX12_reads_59 : decode cX12_reads 59 = .ok (.invokevirtual 432, 3) := by decide +kernel
theorem dX12_reads_62 : decode cX12_reads 62 = .ok (.aload_n 0, 1) := by decide +kernel
theorem dX12_reads_63 : decode cX12_reads 63 = .ok (.invokevirtual 429, 3) := by decide +kernel
theorem dX12_reads_66 : decode cX12_reads 66 = .ok (.goto (-30), 3) := by decide +kernel
theorem dX12_reads_69 : decode cX12_reads 69 = .ok (.aload_n 0, 1) := by decide +kernel
theorem dX12_reads_70 : decode cX12_reads 70 = .ok (.getfield 377, 3) := by decide +kernel
theorem dX12_reads_73 : decode cX12_reads 73 = .ok (.ifCond .ne 19, 3) := by decide +kernel
theorem dX12_reads_76 : decode cX12_reads 76 = .ok (.aload_n 0, 1) := by decide +kernel
theorem dX12_reads_77 : decode cX12_reads 77 = .ok (.getfield 383, 3) := by decide +kernel
theorem dX12_reads_80 : decode cX12_reads 80 = .ok (.ifCond .ne 12, 3) := by decide +kernel
theorem dX12_reads_83 : decode cX12_reads 83 = .ok (.aload_n 0, 1) := by decide +kernel
theorem dX12_reads_84 : decode cX12_reads 84 = .ok (.iconst 3, 1) := by decide +kernel
theorem dX12_reads_85 : decode cX12_reads 85 = .ok (.aload_n 0, 1) := by decide +kernel
theorem dX12_reads_86 : decode cX12_reads 86 = .ok (.getfield 374, 3) := by decide +kernel
theorem dX12_reads_89 : decode cX12_reads 89 = .ok (.invokevirtual 410, 3) := by decide +kernel
theorem dX12_reads_92 : decode cX12_reads 92 = .ok (.aload_n 0, 1) := by decide +kernel
theorem dX12_reads_93 : decode cX12_reads 93 = .ok (.iconst 0, 1) := by decide +kernel
theorem dX12_reads_94 : decode cX12_reads 94 = .ok (.putfield 374, 3) := by decide +kernel
theorem dX12_reads_97 : decode cX12_reads 97 = .ok (.aload_n 0, 1) := by decide +kernel
theorem dX12_reads_98 : decode cX12_reads 98 = .ok (.getfield 377, 3) := by decide +kernel
theorem dX12_reads_101 : decode cX12_reads 101 = .ok (.ifCond .ne 7, 3) := by decide +kernel
theorem dX12_reads_104 : decode cX12_reads 104 = .ok (.iconst 1, 1) := by decide +kernel
theorem dX12_reads_105 : decode cX12_reads 105 = .ok (.goto 4, 3) := by decide +kernel
theorem dX12_reads_108 : decode cX12_reads 108 = .ok (.iconst 0, 1) := by decide +kernel
theorem dX12_reads_109 : decode cX12_reads 109 = .ok (.ireturn, 1) := by decide +kernel

section
variable {p : Program} {l : Launch} {e : Env} {R : Room} {s : State} {m : MethodId} {args : Array Value} {below : List Frame} {meth : Method} {c : Code} {H : Heap} {locs : List Loc} {Qf : State → Prop}
variable {ls : Array Slot} {D : va_G} {ca : Nat → ClassId} {A : Nat → Prop} {h0 : Nat} {ad : Nat → Nat} {H0 : Heap} {u : iST}
def w_reads_92 (Q : Int → iST → Prop) (u : iST) : Prop :=
  sw (iI u 14 0) (fun u => 
  rd (u.1 24) (fun v4 => 
  br (v4 ≠ 0) (
    zt 0 (Q 0 u)) (
    zt 1 (Q 1 u))))
set_option maxRecDepth 20000 in
set_option maxHeartbeats 4000000 in
theorem b_reads_92 (X : kX p m c cX12_reads 2 s args D ca) (hRf : 7 ≤ R.frames) (hRl : 159 ≤ R.locals) {Q : Int → iST → Prop} (hret : ∀ (v : Int) (u : iST) (H : Heap) (locs : List Loc) (ls : Array Slot) (pc : Nat), bz v → Q v u → kW D ca A h0 ad H0 H locs u → decode cX12_reads pc = .ok (.ireturn, 1) → W p l e R s m args below meth c H locs 0 0 Qf (F0 m pc ls [.int (jI v)])) (hw : kW D ca A h0 ad H0 H locs u) (hl : lv_has ls 2 [(0, .ref h0)]) (h : w_reads_92 Q u) : W p l e R s m args below meth c H locs 0 0 Qf (F0 m 92 ls []) := by
  have hx := X.1.1
  have hb := X.1.2.1
  unfold w_reads_92 at h
  refine lv_aload_n hx hb dX12_reads_92 rfl (lv_at hl 0 rfl) ?_
  refine lv_iconst hx hb dX12_reads_93 (v := jI 0) rfl ?_
  refine pS 14 374 (by decide) L_14 rfl rfl rfl (fun _ _ _ _ _ => mSI_14) (by decide) X hw (by decide) dX12_reads_94 h (fun H locs u hw h => ?_)
  refine lv_aload_n hx hb dX12_reads_97 rfl (lv_at hl 0 rfl) ?_
  refine gS 24 377 (by decide) L_24 (fun _ _ => mF_24) rfl X hw dX12_reads_98 h (fun v4 rv4 h => ?_)
  refine k_if_ne hx hb rv4 dX12_reads_101 (tgt := 108) rfl h (fun h => ?_) (fun h => ?_)
  · refine lv_iconst hx hb dX12_reads_108 (v := jI 0) rfl ?_
    exact hret _ _ _ _ _ _ h.1 h.2 hw dX12_reads_109
  · refine lv_iconst hx hb dX12_reads_104 (v := jI 1) rfl ?_
    refine lv_goto hx hb dX12_reads_105 (tgt := 109) rfl ?_
    exact hret _ _ _ _ _ _ h.1 h.2 hw dX12_reads_109

def w_reads_69 (Q : Int → iST → Prop) (u : iST) : Prop :=
  rd (u.1 24) (fun v3 => 
  br (v3 ≠ 0) (
    w_reads_92 Q u) (
    rz (u.1 34) (fun v5 => 
    br (v5 ≠ 0) (
      w_reads_92 Q u) (
      rd (u.1 14) (fun v6 => 
      w_bad 3 v6 (fun u => 
      w_reads_92 Q u) u)))))
set_option maxRecDepth 20000 in
set_option maxHeartbeats 4000000 in
theorem b_reads_69 (X : kX p m c cX12_reads 2 s args D ca) (hRf : 7 ≤ R.frames) (hRl : 159 ≤ R.locals) {Q : Int → iST → Prop} (hret : ∀ (v : Int) (u : iST) (H : Heap) (locs : List Loc) (ls : Array Slot) (pc : Nat), bz v → Q v u → kW D ca A h0 ad H0 H locs u → decode cX12_reads pc = .ok (.ireturn, 1) → W p l e R s m args below meth c H locs 0 0 Qf (F0 m pc ls [.int (jI v)])) (hw : kW D ca A h0 ad H0 H locs u) (hl : lv_has ls 2 [(0, .ref h0)]) (h : w_reads_69 Q u) : W p l e R s m args below meth c H locs 0 0 Qf (F0 m 69 ls []) := by
  have hx := X.1.1
  have hb := X.1.2.1
  unfold w_reads_69 at h
  refine lv_aload_n hx hb dX12_reads_69 rfl (lv_at hl 0 rfl) ?_
  refine gS 24 377 (by decide) L_24 (fun _ _ => mF_24) rfl X hw dX12_reads_70 h (fun v3 rv3 h => ?_)
  refine k_if_ne hx hb rv3 dX12_reads_73 (tgt := 92) rfl h (fun h => ?_) (fun h => ?_)
  · exact b_reads_92 X hRf hRl hret hw hl h
  · refine lv_aload_n hx hb dX12_reads_76 rfl (lv_at hl 0 rfl) ?_
    refine gZ 34 383 (by decide) L_34 (fun _ _ => mF_34) rfl (by decide) X hw dX12_reads_77 h (fun v5 rv5 h => ?_)
    refine k_if_ne hx hb (bz_in rv5) dX12_reads_80 (tgt := 92) rfl h (fun h => ?_) (fun h => ?_)
    · exact b_reads_92 X hRf hRl hret hw hl h
    · refine lv_aload_n hx hb dX12_reads_83 rfl (lv_at hl 0 rfl) ?_
      refine lv_iconst hx hb dX12_reads_84 (v := jI 3) rfl ?_
      refine lv_aload_n hx hb dX12_reads_85 rfl (lv_at hl 0 rfl) ?_
      refine gS 14 374 (by decide) L_14 (fun _ _ => mF_14) rfl X hw dX12_reads_86 h (fun v6 rv6 h => ?_)
      refine kcV (n := 2) (c_bad (by decide) rv6 h) G_bad E_bad X hw (Nat.le_trans (Nat.le_of_ble_eq_true rfl) hRf) (Nat.le_trans (Nat.le_of_ble_eq_true rfl) hRl) rfl hl.1 (Nat.le_of_ble_eq_true rfl) rfl dX12_reads_89 (fun u H locs h hw => ?_)
      exact b_reads_92 X hRf hRl hret hw hl h

def w_reads_36b (R36 : Int → iST → Prop) (Q : Int → iST → Prop) (x1 : Int) (u : iST) : Prop :=
  rd (u.1 24) (fun v2 => 
  br (v2 ≠ 0) (
    w_reads_69 Q u) (
    rd (u.1 23) (fun v8 => 
    rd (u.1 14) (fun v9 => 
    br (v9 ≤ v8) (
      w_reads_69 Q u) (
      ov (x1 + 1) (
      w_readWord (x1 + 1) (fun u => 
      w_skip (fun u => 
      R36 (x1 + 1) u) u) u))))))
def w_reads_36 (Q : Int → iST → Prop) (x1 : Int) (u : iST) : Prop := ∀ R36 : Int → iST → Prop, (∀ (x1 : Int) (u : iST), w_reads_36b R36 Q x1 u → R36 x1 u) → R36 x1 u
set_option maxRecDepth 20000 in
set_option maxHeartbeats 4000000 in
theorem b_reads_36 (X : kX p m c cX12_reads 2 s args D ca) (hRf : 7 ≤ R.frames) (hRl : 159 ≤ R.locals) {Q : Int → iST → Prop} (hret : ∀ (v : Int) (u : iST) (H : Heap) (locs : List Loc) (ls : Array Slot) (pc : Nat), bz v → Q v u → kW D ca A h0 ad H0 H locs u → decode cX12_reads pc = .ok (.ireturn, 1) → W p l e R s m args below meth c H locs 0 0 Qf (F0 m pc ls [.int (jI v)])) {x1 : Int} (rx1 : inR x1) (hw : kW D ca A h0 ad H0 H locs u) (hl : lv_has ls 2 [(0, .ref h0), (1, .int (jI x1))]) (h : w_reads_36 Q x1 u) : W p l e R s m args below meth c H locs 0 0 Qf (F0 m 36 ls []) := by
  refine h (fun x1 u => ∀ (H : Heap) (locs : List Loc) (ls : Array Slot), inR x1 → kW D ca A h0 ad H0 H locs u → lv_has ls 2 [(0, .ref h0), (1, .int (jI x1))] → W p l e R s m args below meth c H locs 0 0 Qf (F0 m 36 ls [])) ?_ H locs ls rx1 hw hl
  clear h hl hw rx1
  intro x1 u h H locs ls rx1 hw hl
  have hR36 : ∀ (x1 : Int) (u : iST) (H : Heap) (locs : List Loc) (ls : Array Slot), inR x1 → kW D ca A h0 ad H0 H locs u → lv_has ls 2 [(0, .ref h0), (1, .int (jI x1))] → (fun (x1 : Int) u => ∀ (H : Heap) (locs : List Loc) (ls : Array Slot), inR x1 → kW D ca A h0 ad H0 H locs u → lv_has ls 2 [(0, .ref h0), (1, .int (jI x1))] → W p l e R s m args below meth c H locs 0 0 Qf (F0 m 36 ls [])) x1 u → W p l e R s m args below meth c H locs 0 0 Qf (F0 m 36 ls []) := fun x1 u H locs ls rx1 hw hl h => h H locs ls rx1 hw hl
  have hx := X.1.1
  have hb := X.1.2.1
  unfold w_reads_36b at h
  refine lv_aload_n hx hb dX12_reads_36 rfl (lv_at hl 0 rfl) ?_
  refine gS 24 377 (by decide) L_24 (fun _ _ => mF_24) rfl X hw dX12_reads_37 h (fun v2 rv2 h => ?_)
  refine k_if_ne hx hb rv2 dX12_reads_40 (tgt := 69) rfl h (fun h => ?_) (fun h => ?_)
  · exact b_reads_69 X hRf hRl hret hw (lv_sub hl [0] rfl) h
  · refine lv_aload_n hx hb dX12_reads_43 rfl (lv_at hl 0 rfl) ?_
    refine gS 23 371 (by decide) L_23 (fun _ _ => mF_23) rfl X hw dX12_reads_44 h (fun v8 rv8 h => ?_)
    refine lv_aload_n hx hb dX12_reads_47 rfl (lv_at hl 0 rfl) ?_
    refine gS 14 374 (by decide) L_14 (fun _ _ => mF_14) rfl X hw dX12_reads_48 h (fun v9 rv9 h => ?_)
    refine k_icmp_ge hx hb rv8 rv9 dX12_reads_51 (tgt := 69) rfl h (fun h => ?_) (fun h => ?_)
    · exact b_reads_69 X hRf hRl hret hw (lv_sub hl [0] rfl) h
    · refine k_iinc (k := 1) hx hb dX12_reads_54 hl rfl (by decide) rfl h (fun ls r10 h hl => ?_)
      have hl : lv_has ls 2 [(1, .int (jI (x1 + 1))), (0, .ref (h0))] := hl
      refine lv_aload_n hx hb dX12_reads_57 rfl (lv_at hl 1 rfl) ?_
      refine lv_iload_n hx hb dX12_reads_58 rfl (lv_at hl 0 rfl) ?_
      refine kcV (n := 1) (c_readWord r10 h) G_readWord E_readWord X hw (Nat.le_trans (Nat.le_of_ble_eq_true rfl) hRf) (Nat.le_trans (Nat.le_of_ble_eq_true rfl) hRl) rfl hl.1 (Nat.le_of_ble_eq_true rfl) rfl dX12_reads_59 (fun u H locs h hw => ?_)
      refine lv_aload_n hx hb dX12_reads_62 rfl (lv_at hl 1 rfl) ?_
      refine kcV (n := 0) (c_skip h) G_skip E_skip X hw (Nat.le_trans (Nat.le_of_ble_eq_true rfl) hRf) (Nat.le_trans (Nat.le_of_ble_eq_true rfl) hRl) rfl hl.1 (Nat.le_of_ble_eq_true rfl) rfl dX12_reads_63 (fun u H locs h hw => ?_)
      refine lv_goto hx hb dX12_reads_66 (tgt := 36) rfl ?_
      exact hR36 _ _ H locs ls r10 hw (lv_sub hl [1, 0] rfl) h

def w_reads (Q : Int → iST → Prop) (u : iST) : Prop :=
  sw (iI u 23 0) (fun u => 
  sw (iI u 30 0) (fun u => 
  sw (iI u 32 0) (fun u => 
  zt 0 (sw (iI u 34 0) (fun u => 
  sw (iI u 24 0) (fun u => 
  sw (iI u 25 (-1)) (fun u => 
  w_skip (fun u => 
  w_reads_36 Q 0 u) u)))))))
set_option maxRecDepth 20000 in
set_option maxHeartbeats 4000000 in
theorem b_reads_s (X : kX p m c cX12_reads 2 s args D ca) (hRf : 7 ≤ R.frames) (hRl : 159 ≤ R.locals) {Q : Int → iST → Prop} (hret : ∀ (v : Int) (u : iST) (H : Heap) (locs : List Loc) (ls : Array Slot) (pc : Nat), bz v → Q v u → kW D ca A h0 ad H0 H locs u → decode cX12_reads pc = .ok (.ireturn, 1) → W p l e R s m args below meth c H locs 0 0 Qf (F0 m pc ls [.int (jI v)])) (hw : kW D ca A h0 ad H0 H locs u) (hl : lv_has ls 2 [(0, .ref h0)]) (h : w_reads Q u) : W p l e R s m args below meth c H locs 0 0 Qf (F0 m 0 ls []) := by
  have hx := X.1.1
  have hb := X.1.2.1
  unfold w_reads at h
  refine lv_aload_n hx hb dX12_reads_0 rfl (lv_at hl 0 rfl) ?_
  refine lv_iconst hx hb dX12_reads_1 (v := jI 0) rfl ?_
  refine pS 23 371 (by decide) L_23 rfl rfl rfl (fun _ _ _ _ _ => mSI_23) (by decide) X hw (by decide) dX12_reads_2 h (fun H locs u hw h => ?_)
  refine lv_aload_n hx hb dX12_reads_5 rfl (lv_at hl 0 rfl) ?_
  refine lv_iconst hx hb dX12_reads_6 (v := jI 0) rfl ?_
  refine pS 30 380 (by decide) L_30 rfl rfl rfl (fun _ _ _ _ _ => mSI_30) (by decide) X hw (by decide) dX12_reads_7 h (fun H locs u hw h => ?_)
  refine lv_aload_n hx hb dX12_reads_10 rfl (lv_at hl 0 rfl) ?_
  refine lv_iconst hx hb dX12_reads_11 (v := jI 0) rfl ?_
  refine pS 32 387 (by decide) L_32 rfl rfl rfl (fun _ _ _ _ _ => mSI_32) (by decide) X hw (by decide) dX12_reads_12 h (fun H locs u hw h => ?_)
  refine lv_aload_n hx hb dX12_reads_15 rfl (lv_at hl 0 rfl) ?_
  refine lv_iconst hx hb dX12_reads_16 (v := jI 0) rfl ?_
  refine pZ 34 383 (by decide) L_34 rfl rfl rfl (fun _ _ _ _ _ => mSI_34) X hw dX12_reads_17 h (fun H locs u hw h => ?_)
  refine lv_aload_n hx hb dX12_reads_20 rfl (lv_at hl 0 rfl) ?_
  refine lv_iconst hx hb dX12_reads_21 (v := jI 0) rfl ?_
  refine pS 24 377 (by decide) L_24 rfl rfl rfl (fun _ _ _ _ _ => mSI_24) (by decide) X hw (by decide) dX12_reads_22 h (fun H locs u hw h => ?_)
  refine lv_aload_n hx hb dX12_reads_25 rfl (lv_at hl 0 rfl) ?_
  refine lv_iconst hx hb dX12_reads_26 (v := jI (-1)) rfl ?_
  refine pS 25 59 (by decide) L_25 rfl rfl rfl (fun _ _ _ _ _ => mSI_25) (by decide) X hw (by decide) dX12_reads_27 h (fun H locs u hw h => ?_)
  refine lv_iconst hx hb dX12_reads_30 (v := jI 0) rfl ?_
  refine lv_istore_n hx hb dX12_reads_31 rfl hl (by decide) rfl (fun ls hl => ?_)
  have hl : lv_has ls 2 [(1, .int (jI 0)), (0, .ref (h0))] := hl
  refine lv_aload_n hx hb dX12_reads_32 rfl (lv_at hl 1 rfl) ?_
  refine kcV (n := 0) (c_skip h) G_skip E_skip X hw (Nat.le_trans (Nat.le_of_ble_eq_true rfl) hRf) (Nat.le_trans (Nat.le_of_ble_eq_true rfl) hRl) rfl hl.1 (Nat.le_of_ble_eq_true rfl) rfl dX12_reads_33 (fun u H locs h hw => ?_)
  exact b_reads_36 X hRf hRl hret (by decide) hw (lv_sub hl [1, 0] rfl) h

end
theorem c_reads {l : Launch} {Q : Int → iST → Prop} {u : iST} (h : w_reads Q u) : kMI l yX12_reads (.code yX12_reads cX12_reads 2 (some .boolean) :: wsM) { frames := 7, cells := 0, slots := 0, locals := 159 } [] Q u := kMZ_of rfl (fun _ => Nat.le_of_ble_eq_true rfl) (fun X hRf hRl hret hw hl => b_reads_s X hRf hRl hret hw hl h)

/-! tellLetter -/
theorem dX12_tellLetter_0 : decode cX12_tellLetter 0 = .ok (.aload_n 0, 1) := by decide +kernel
theorem dX12_tellLetter_1 : decode cX12_tellLetter 1 = .ok (.getfield 435, 3) := by decide +kernel
theorem dX12_tellLetter_4 : decode cX12_tellLetter 4 = .ok (.ifCond .eq 36, 3) := by decide +kernel
theorem dX12_tellLetter_7 : decode cX12_tellLetter 7 = .ok (.aload_n 0, 1) := by decide +kernel
theorem dX12_tellLetter_8 : decode cX12_tellLetter 8 = .ok (.getfield 438, 3) := by decide +kernel
theorem dX12_tellLetter_11 : decode cX12_tellLetter 11 = .ok (.sipush 200, 3) := by decide +kernel
theorem dX12_tellLetter_14 : decode cX12_tellLetter 14 = .ok (.if_icmp .ge 56, 3) := by decide +kernel
theorem dX12_tellLetter_17 : decode cX12_tellLetter 17 = .ok (.aload_n 0, 1) := by decide +kernel
theorem dX12_tellLetter_18 : decode cX12_tellLetter 18 = .ok (.getfield 56, 3) := by decide +kernel
theorem dX12_tellLetter_21 : decode cX12_tellLetter 21 = .ok (.aload_n 0, 1) := by decide +kernel
theorem dX12_tellLetter_22 : decode cX12_tellLetter 22 = .ok (.getfield 438, 3) := by decide +kernel
theorem dX12_tellLetter_25 : decode cX12_tellLetter 25 = .ok (.iload_n 1, 1) := by decide +kernel
theorem dX12_tellLetter_26 : decode cX12_tellLetter 26 = .ok (.iastore, 1) := by decide +kernel
theorem dX12_tellLetter_27 : decode cX12_tellLetter 27 = .ok (.aload_n 0, 1) := by decide +kernel
theorem dX12_tellLetter_28 : decode cX12_tellLetter 28 = .ok (.dup, 1) := by decide +kernel
theorem dX12_tellLetter_29 : decode cX12_tellLetter 29 = .ok (.getfield 438, 3) := by decide +kernel
theorem dX12_tellLetter_32 : decode cX12_tellLetter 32 = .ok (.iconst 1, 1) := by decide +kernel
theorem dX12_tellLetter_33 : decode cX12_tellLetter 33 = .ok (.iadd, 1) := by decide +kernel
theorem dX12_tellLetter_34 : decode cX12_tellLetter 34 = .ok (.putfield 438, 3) := by decide +kernel
theorem dX12_tellLetter_37 : decode cX12_tellLetter 37 = .ok (.goto 33, 3) := by decide +kernel
theorem dX12_tellLetter_40 : decode cX12_tellLetter 40 = .ok (.aload_n 0, 1) := by decide +kernel
theorem dX12_tellLetter_41 : decode cX12_tellLetter 41 = .ok (.getfield 441, 3) := by decide +kernel
theorem dX12_tellLetter_44 : decode cX12_tellLetter 44 = .ok (.sipush 2000, 3) := by decide +kernel
theorem dX12_tellLetter_47 : decode cX12_tellLetter 47 = .ok (.if_icmp .ge 23, 3) := by decide +kernel
theorem dX12_tellLetter_50 : decode cX12_tellLetter 50 = .ok (.aload_n 0, 1) := by decide +kernel
theorem dX12_tellLetter_51 : decode cX12_tellLetter 51 = .ok (.getfield 47, 3) := by decide +kernel
theorem dX12_tellLetter_54 : decode cX12_tellLetter 54 = .ok (.aload_n 0, 1) := by decide +kernel
theorem dX12_tellLetter_55 : decode cX12_tellLetter 55 = .ok (.getfield 441, 3) := by decide +kernel
theorem dX12_tellLetter_58 : decode cX12_tellLetter 58 = .ok (.iload_n 1, 1) := by decide +kernel
theorem dX12_tellLetter_59 : decode cX12_tellLetter 59 = .ok (.iastore, 1) := by decide +kernel
theorem dX12_tellLetter_60 : decode cX12_tellLetter 60 = .ok (.aload_n 0, 1) := by decide +kernel
theorem dX12_tellLetter_61 : decode cX12_tellLetter 61 = .ok (.dup, 1) := by decide +kernel
theorem dX12_tellLetter_62 : decode cX12_tellLetter 62 = .ok (.getfield 441, 3) := by decide +kernel
theorem dX12_tellLetter_65 : decode cX12_tellLetter 65 = .ok (.iconst 1, 1) := by decide +kernel
theorem dX12_tellLetter_66 : decode cX12_tellLetter 66 = .ok (.iadd, 1) := by decide +kernel
theorem dX12_tellLetter_67 : decode cX12_tellLetter 67 = .ok (.putfield 441, 3) := by decide +kernel
theorem dX12_tellLetter_70 : decode cX12_tellLetter 70 = .ok (.return_, 1) := by decide +kernel

section
variable {p : Program} {l : Launch} {e : Env} {R : Room} {s : State} {m : MethodId} {args : Array Value} {below : List Frame} {meth : Method} {c : Code} {H : Heap} {locs : List Loc} {Qf : State → Prop}
variable {ls : Array Slot} {D : va_G} {ca : Nat → ClassId} {A : Nat → Prop} {h0 : Nat} {ad : Nat → Nat} {H0 : Heap} {u : iST}
def w_tellLetter (a0 : Int) (Q : iST → Prop) (u : iST) : Prop :=
  rz (u.1 64) (fun v1 => 
  br (v1 = 0) (
    rd (u.1 16) (fun v2 => 
    br (2000 ≤ v2) (
      Q u) (
      rd (u.1 16) (fun v3 => 
      bd v3 2000 (sw (iA u 15 v3 a0) (fun u => 
      rd (u.1 16) (fun v4 => 
      ov (v4 + 1) (
      sw (iI u 16 (v4 + 1)) (fun u => 
      Q u))))))))) (
    rd (u.1 22) (fun v6 => 
    br (200 ≤ v6) (
      Q u) (
      rd (u.1 22) (fun v7 => 
      bd v7 200 (sw (iA u 21 v7 a0) (fun u => 
      rd (u.1 22) (fun v8 => 
      ov (v8 + 1) (
      sw (iI u 22 (v8 + 1)) (fun u => 
      Q u))))))))))
set_option maxRecDepth 20000 in
set_option maxHeartbeats 4000000 in
theorem b_tellLetter_s (X : kX p m c cX12_tellLetter 2 s args D ca) (hRf : 0 ≤ R.frames) (hRl : 0 ≤ R.locals) {Q : iST → Prop} (hret : ∀ (u : iST) (H : Heap) (locs : List Loc) (ls : Array Slot) (pc : Nat), Q u → kW D ca A h0 ad H0 H locs u → decode cX12_tellLetter pc = .ok (.return_, 1) → W p l e R s m args below meth c H locs 0 0 Qf (F0 m pc ls [])) {a0 : Int} (ra0 : inR a0) (hw : kW D ca A h0 ad H0 H locs u) (hl : lv_has ls 2 [(0, .ref h0), (1, .int (jI a0))]) (h : w_tellLetter a0 Q u) : W p l e R s m args below meth c H locs 0 0 Qf (F0 m 0 ls []) := by
  have hx := X.1.1
  have hb := X.1.2.1
  unfold w_tellLetter at h
  refine lv_aload_n hx hb dX12_tellLetter_0 rfl (lv_at hl 0 rfl) ?_
  refine gZ 64 435 (by decide) L_64 (fun _ _ => mF_64) rfl (by decide) X hw dX12_tellLetter_1 h (fun v1 rv1 h => ?_)
  refine k_if_eq hx hb (bz_in rv1) dX12_tellLetter_4 (tgt := 40) rfl h (fun h => ?_) (fun h => ?_)
  · refine lv_aload_n hx hb dX12_tellLetter_40 rfl (lv_at hl 0 rfl) ?_
    refine gS 16 441 (by decide) L_16 (fun _ _ => mF_16) rfl X hw dX12_tellLetter_41 h (fun v2 rv2 h => ?_)
    refine lv_sipush hx hb dX12_tellLetter_44 (v := jI 2000) rfl ?_
    refine k_icmp_ge hx hb rv2 (by decide) dX12_tellLetter_47 (tgt := 70) rfl h (fun h => ?_) (fun h => ?_)
    · exact hret _ _ _ _ _ h hw dX12_tellLetter_70
    · refine lv_aload_n hx hb dX12_tellLetter_50 rfl (lv_at hl 0 rfl) ?_
      refine gA 15 47 (by decide) L_15 (fun _ _ => mF_15) rfl X hw dX12_tellLetter_51 ?_
      refine lv_aload_n hx hb dX12_tellLetter_54 rfl (lv_at hl 0 rfl) ?_
      refine gS 16 441 (by decide) L_16 (fun _ _ => mF_16) rfl X hw dX12_tellLetter_55 h (fun v3 rv3 h => ?_)
      refine lv_iload_n hx hb dX12_tellLetter_58 rfl (lv_at hl 1 rfl) ?_
      refine aS 15 12 11 2000 (fun _ _ _ _ => mG_15) (fun _ => rfl) (fun _ _ _ _ _ _ => mSA_15) (by decide) X hw rv3 ra0 dX12_tellLetter_59 rfl h (fun H locs u hw h => ?_)
      refine lv_aload_n hx hb dX12_tellLetter_60 rfl (lv_at hl 0 rfl) ?_
      refine lv_dup hx hb dX12_tellLetter_61 rfl ?_
      refine gS 16 441 (by decide) L_16 (fun _ _ => mF_16) rfl X hw dX12_tellLetter_62 h (fun v4 rv4 h => ?_)
      refine lv_iconst hx hb dX12_tellLetter_65 (v := jI 1) rfl ?_
      refine k_iadd hx hb dX12_tellLetter_66 h (fun r5 h => ?_)
      refine pS 16 441 (by decide) L_16 rfl rfl rfl (fun _ _ _ _ _ => mSI_16) (by decide) X hw r5 dX12_tellLetter_67 h (fun H locs u hw h => ?_)
      exact hret _ _ _ _ _ h hw dX12_tellLetter_70
  · refine lv_aload_n hx hb dX12_tellLetter_7 rfl (lv_at hl 0 rfl) ?_
    refine gS 22 438 (by decide) L_22 (fun _ _ => mF_22) rfl X hw dX12_tellLetter_8 h (fun v6 rv6 h => ?_)
    refine lv_sipush hx hb dX12_tellLetter_11 (v := jI 200) rfl ?_
    refine k_icmp_ge hx hb rv6 (by decide) dX12_tellLetter_14 (tgt := 70) rfl h (fun h => ?_) (fun h => ?_)
    · exact hret _ _ _ _ _ h hw dX12_tellLetter_70
    · refine lv_aload_n hx hb dX12_tellLetter_17 rfl (lv_at hl 0 rfl) ?_
      refine gA 21 56 (by decide) L_21 (fun _ _ => mF_21) rfl X hw dX12_tellLetter_18 ?_
      refine lv_aload_n hx hb dX12_tellLetter_21 rfl (lv_at hl 0 rfl) ?_
      refine gS 22 438 (by decide) L_22 (fun _ _ => mF_22) rfl X hw dX12_tellLetter_22 h (fun v7 rv7 h => ?_)
      refine lv_iload_n hx hb dX12_tellLetter_25 rfl (lv_at hl 1 rfl) ?_
      refine aS 21 15 14 200 (fun _ _ _ _ => mG_21) (fun _ => rfl) (fun _ _ _ _ _ _ => mSA_21) (by decide) X hw rv7 ra0 dX12_tellLetter_26 rfl h (fun H locs u hw h => ?_)
      refine lv_aload_n hx hb dX12_tellLetter_27 rfl (lv_at hl 0 rfl) ?_
      refine lv_dup hx hb dX12_tellLetter_28 rfl ?_
      refine gS 22 438 (by decide) L_22 (fun _ _ => mF_22) rfl X hw dX12_tellLetter_29 h (fun v8 rv8 h => ?_)
      refine lv_iconst hx hb dX12_tellLetter_32 (v := jI 1) rfl ?_
      refine k_iadd hx hb dX12_tellLetter_33 h (fun r9 h => ?_)
      refine pS 22 438 (by decide) L_22 rfl rfl rfl (fun _ _ _ _ _ => mSI_22) (by decide) X hw r9 dX12_tellLetter_34 h (fun H locs u hw h => ?_)
      refine lv_goto hx hb dX12_tellLetter_37 (tgt := 70) rfl ?_
      exact hret _ _ _ _ _ h hw dX12_tellLetter_70

end
theorem c_tellLetter {l : Launch} {a0 : Int} (ra0 : inR a0) {Q : iST → Prop} {u : iST} (h : w_tellLetter a0 Q u) : kMV l yX12_tellLetter (.code yX12_tellLetter cX12_tellLetter 2 none :: wsM) { frames := 0, cells := 0, slots := 0, locals := 0 } [.int (jI a0)] Q u := kMV_of rfl (fun _ => Nat.le_of_ble_eq_true rfl) (fun X hRf hRl hret hw hl => b_tellLetter_s X hRf hRl hret ra0 hw hl h)

/-! isFull -/
theorem dX12_isFull_0 : decode cX12_isFull 0 = .ok (.aload_n 0, 1) := by decide +kernel
theorem dX12_isFull_1 : decode cX12_isFull 1 = .ok (.getfield 435, 3) := by decide +kernel
theorem dX12_isFull_4 : decode cX12_isFull 4 = .ok (.ifCond .eq 21, 3) := by decide +kernel
theorem dX12_isFull_7 : decode cX12_isFull 7 = .ok (.aload_n 0, 1) := by decide +kernel
theorem dX12_isFull_8 : decode cX12_isFull 8 = .ok (.getfield 438, 3) := by decide +kernel
theorem dX12_isFull_11 : decode cX12_isFull 11 = .ok (.sipush 200, 3) := by decide +kernel
theorem dX12_isFull_14 : decode cX12_isFull 14 = .ok (.if_icmp .ne 7, 3) := by decide +kernel
theorem dX12_isFull_17 : decode cX12_isFull 17 = .ok (.iconst 1, 1) := by decide +kernel
theorem dX12_isFull_18 : decode cX12_isFull 18 = .ok (.goto 22, 3) := by decide +kernel
theorem dX12_isFull_21 : decode cX12_isFull 21 = .ok (.iconst 0, 1) := by decide +kernel
theorem dX12_isFull_22 : decode cX12_isFull 22 = .ok (.goto 18, 3) := by decide +kernel
theorem dX12_isFull_25 : decode cX12_isFull 25 = .ok (.aload_n 0, 1) := by decide +kernel
theorem dX12_isFull_26 : decode cX12_isFull 26 = .ok (.getfield 441, 3) := by decide +kernel
theorem dX12_isFull_29 : decode cX12_isFull 29 = .ok (.sipush 2000, 3) := by decide +kernel
theorem dX12_isFull_32 : decode cX12_isFull 32 = .ok (.if_icmp .ne 7, 3) := by decide +kernel
theorem dX12_isFull_35 : decode cX12_isFull 35 = .ok (.iconst 1, 1) := by decide +kernel
theorem dX12_isFull_36 : decode cX12_isFull 36 = .ok (.goto 4, 3) := by decide +kernel
theorem dX12_isFull_39 : decode cX12_isFull 39 = .ok (.iconst 0, 1) := by decide +kernel
theorem dX12_isFull_40 : decode cX12_isFull 40 = .ok (.ireturn, 1) := by decide +kernel

section
variable {p : Program} {l : Launch} {e : Env} {R : Room} {s : State} {m : MethodId} {args : Array Value} {below : List Frame} {meth : Method} {c : Code} {H : Heap} {locs : List Loc} {Qf : State → Prop}
variable {ls : Array Slot} {D : va_G} {ca : Nat → ClassId} {A : Nat → Prop} {h0 : Nat} {ad : Nat → Nat} {H0 : Heap} {u : iST}
def w_isFull (Q : Int → iST → Prop) (u : iST) : Prop :=
  rz (u.1 64) (fun v1 => 
  br (v1 = 0) (
    rd (u.1 16) (fun v2 => 
    br (v2 ≠ 2000) (
      zt 0 (Q 0 u)) (
      zt 1 (Q 1 u)))) (
    rd (u.1 22) (fun v3 => 
    br (v3 ≠ 200) (
      zt 0 (Q 0 u)) (
      zt 1 (Q 1 u)))))
set_option maxRecDepth 20000 in
set_option maxHeartbeats 4000000 in
theorem b_isFull_s (X : kX p m c cX12_isFull 1 s args D ca) (hRf : 0 ≤ R.frames) (hRl : 0 ≤ R.locals) {Q : Int → iST → Prop} (hret : ∀ (v : Int) (u : iST) (H : Heap) (locs : List Loc) (ls : Array Slot) (pc : Nat), bz v → Q v u → kW D ca A h0 ad H0 H locs u → decode cX12_isFull pc = .ok (.ireturn, 1) → W p l e R s m args below meth c H locs 0 0 Qf (F0 m pc ls [.int (jI v)])) (hw : kW D ca A h0 ad H0 H locs u) (hl : lv_has ls 1 [(0, .ref h0)]) (h : w_isFull Q u) : W p l e R s m args below meth c H locs 0 0 Qf (F0 m 0 ls []) := by
  have hx := X.1.1
  have hb := X.1.2.1
  unfold w_isFull at h
  refine lv_aload_n hx hb dX12_isFull_0 rfl (lv_at hl 0 rfl) ?_
  refine gZ 64 435 (by decide) L_64 (fun _ _ => mF_64) rfl (by decide) X hw dX12_isFull_1 h (fun v1 rv1 h => ?_)
  refine k_if_eq hx hb (bz_in rv1) dX12_isFull_4 (tgt := 25) rfl h (fun h => ?_) (fun h => ?_)
  · refine lv_aload_n hx hb dX12_isFull_25 rfl (lv_at hl 0 rfl) ?_
    refine gS 16 441 (by decide) L_16 (fun _ _ => mF_16) rfl X hw dX12_isFull_26 h (fun v2 rv2 h => ?_)
    refine lv_sipush hx hb dX12_isFull_29 (v := jI 2000) rfl ?_
    refine k_icmp_ne hx hb rv2 (by decide) dX12_isFull_32 (tgt := 39) rfl h (fun h => ?_) (fun h => ?_)
    · refine lv_iconst hx hb dX12_isFull_39 (v := jI 0) rfl ?_
      exact hret _ _ _ _ _ _ h.1 h.2 hw dX12_isFull_40
    · refine lv_iconst hx hb dX12_isFull_35 (v := jI 1) rfl ?_
      refine lv_goto hx hb dX12_isFull_36 (tgt := 40) rfl ?_
      exact hret _ _ _ _ _ _ h.1 h.2 hw dX12_isFull_40
  · refine lv_aload_n hx hb dX12_isFull_7 rfl (lv_at hl 0 rfl) ?_
    refine gS 22 438 (by decide) L_22 (fun _ _ => mF_22) rfl X hw dX12_isFull_8 h (fun v3 rv3 h => ?_)
    refine lv_sipush hx hb dX12_isFull_11 (v := jI 200) rfl ?_
    refine k_icmp_ne hx hb rv3 (by decide) dX12_isFull_14 (tgt := 21) rfl h (fun h => ?_) (fun h => ?_)
    · refine lv_iconst hx hb dX12_isFull_21 (v := jI 0) rfl ?_
      refine lv_goto hx hb dX12_isFull_22 (tgt := 40) rfl ?_
      exact hret _ _ _ _ _ _ h.1 h.2 hw dX12_isFull_40
    · refine lv_iconst hx hb dX12_isFull_17 (v := jI 1) rfl ?_
      refine lv_goto hx hb dX12_isFull_18 (tgt := 40) rfl ?_
      exact hret _ _ _ _ _ _ h.1 h.2 hw dX12_isFull_40

end
theorem c_isFull {l : Launch} {Q : Int → iST → Prop} {u : iST} (h : w_isFull Q u) : kMI l yX12_isFull (.code yX12_isFull cX12_isFull 1 (some .boolean) :: wsM) { frames := 0, cells := 0, slots := 0, locals := 0 } [] Q u := kMZ_of rfl (fun _ => Nat.le_of_ble_eq_true rfl) (fun X hRf hRl hret hw hl => b_isFull_s X hRf hRl hret hw hl h)

/-! tellAtom -/
theorem dX12_tellAtom_0 : decode cX12_tellAtom 0 = .ok (.aload_n 0, 1) := by decide +kernel
theorem dX12_tellAtom_1 : decode cX12_tellAtom 1 = .ok (.iload_n 1, 1) := by decide +kernel
theorem dX12_tellAtom_2 : decode cX12_tellAtom 2 = .ok (.invokevirtual 444, 3) := by decide +kernel
theorem dX12_tellAtom_5 : decode cX12_tellAtom 5 = .ok (.ifCond .eq 47, 3) := by decide +kernel
theorem dX12_tellAtom_8 : decode cX12_tellAtom 8 = .ok (.iconst 0, 1) := by decide +kernel
theorem dX12_tellAtom_9 : decode cX12_tellAtom 9 = .ok (.istore_n 2, 1) := by decide +kernel
theorem dX12_tellAtom_10 : decode cX12_tellAtom 10 = .ok (.iload_n 2, 1) := by decide +kernel
theorem dX12_tellAtom_11 : decode cX12_tellAtom 11 = .ok (.aload_n 0, 1) := by decide +kernel
theorem dX12_tellAtom_12 : decode cX12_tellAtom 12 = .ok (.getfield 38, 3) := by decide +kernel
theorem dX12_tellAtom_15 : decode cX12_tellAtom 15 = .ok (.aload_n 0, 1) := by decide +kernel
theorem dX12_tellAtom_16 : decode cX12_tellAtom 16 = .ok (.getfield 14, 3) := by decide +kernel
theorem dX12_tellAtom_19 : decode cX12_tellAtom 19 = .ok (.iload_n 1, 1) := by decide +kernel
theorem dX12_tellAtom_20 : decode cX12_tellAtom 20 = .ok (.iaload, 1) := by decide +kernel
theorem dX12_tellAtom_21 : decode cX12_tellAtom 21 = .ok (.iaload, 1) := by decide +kernel
theorem dX12_tellAtom_22 : decode cX12_tellAtom 22 = .ok (.if_icmp .ge 29, 3) := by decide +kernel
theorem dX12_tellAtom_25 : decode cX12_tellAtom 25 = .ok (.aload_n 0, 1) := by decide +kernel
theorem dX12_tellAtom_26 : decode cX12_tellAtom 26 = .ok (.aload_n 0, 1) := by decide +kernel
theorem dX12_tellAtom_27 : decode cX12_tellAtom 27 = .ok (.getfield 35, 3) := by decide +kernel
theorem dX12_tellAtom_30 : decode cX12_tellAtom 30 = .ok (.bipush 12, 2) := by decide +kernel
theorem dX12_tellAtom_32 : decode cX12_tellAtom 32 = .ok (.aload_n 0, 1) := by decide +kernel
theorem dX12_tellAtom_33 : decode cX12_tellAtom 33 = .ok (.getfield 14, 3) := by decide +kernel
theorem dX12_tellAtom_36 : decode cX12_tellAtom 36 = .ok (.iload_n 1, 1) := by decide +kernel
theorem dX12_tellAtom_37 : decode cX12_tellAtom 37 = .ok (.iaload, 1) := by decide +kernel
theorem dX12_tellAtom_38 : decode cX12_tellAtom 38 = .ok (.imul, 1) := by decide +kernel
theorem dX12_tellAtom_39 : decode cX12_tellAtom 39 = .ok (.iload_n 2, 1) := by decide +kernel
theorem dX12_tellAtom_40 : decode cX12_tellAtom 40 = .ok (.iadd, 1) := by decide +kernel
theorem dX12_tellAtom_41 : decode cX12_tellAtom 41 = .ok (.iaload, 1) := by decide +kernel
theorem dX12_tellAtom_42 : decode cX12_tellAtom 42 = .ok (.invokevirtual 447, 3) := by decide +kernel
theorem dX12_tellAtom_45 : decode cX12_tellAtom 45 = .ok (.iinc 2 1, 3) := by decide +kernel
theorem dX12_tellAtom_48 : decode cX12_tellAtom 48 = .ok (.goto (-38), 3) := by decide +kernel
theorem dX12_tellAtom_51 : decode cX12_tellAtom 51 = .ok (.return_, 1) := by decide +kernel
theorem dX12_tellAtom_52 : decode cX12_tellAtom 52 = .ok (.lconst 1, 1) := by decide +kernel
theorem dX12_tellAtom_53 : decode cX12_tellAtom 53 = .ok (.lstore_n 2, 1) := by decide +kernel
theorem dX12_tellAtom_54 : decode cX12_tellAtom 54 = .ok (.aload_n 0, 1) := by decide +kernel
theorem dX12_tellAtom_55 : decode cX12_tellAtom 55 = .ok (.iload_n 1, 1) := by decide +kernel
theorem dX12_tellAtom_56 : decode cX12_tellAtom 56 = .ok (.invokevirtual 321, 3) := by decide +kernel
theorem dX12_tellAtom_59 : decode cX12_tellAtom 59 = .ok (.lload_n 2, 1) := by decide +kernel
theorem dX12_tellAtom_60 : decode cX12_tellAtom 60 = .ok (.ldiv, 1) := by decide +kernel
theorem dX12_tellAtom_61 : decode cX12_tellAtom 61 = .ok (.ldc2_w 398, 3) := by decide +kernel
theorem dX12_tellAtom_64 : decode cX12_tellAtom 64 = .ok (.lcmp, 1) := by decide +kernel
theorem dX12_tellAtom_65 : decode cX12_tellAtom 65 = .ok (.ifCond .lt 12, 3) := by decide +kernel
theorem dX12_tellAtom_68 : decode cX12_tellAtom 68 = .ok (.ldc2_w 398, 3) := by decide +kernel
theorem dX12_tellAtom_71 : decode cX12_tellAtom 71 = .ok (.lload_n 2, 1) := by decide +kernel
theorem dX12_tellAtom_72 : decode cX12_tellAtom 72 = .ok (.lmul, 1) := by decide +kernel
theorem dX12_tellAtom_73 : decode cX12_tellAtom 73 = .ok (.lstore_n 2, 1) := by decide +kernel
theorem dX12_tellAtom_74 : decode cX12_tellAtom 74 = .ok (.goto (-20), 3) := by decide +kernel
theorem dX12_tellAtom_77 : decode cX12_tellAtom 77 = .ok (.lload_n 2, 1) := by decide +kernel
theorem dX12_tellAtom_78 : decode cX12_tellAtom 78 = .ok (.lconst 0, 1) := by decide +kernel
theorem dX12_tellAtom_79 : decode cX12_tellAtom 79 = .ok (.lcmp, 1) := by decide +kernel
theorem dX12_tellAtom_80 : decode cX12_tellAtom 80 = .ok (.ifCond .le 31, 3) := by decide +kernel
theorem dX12_tellAtom_83 : decode cX12_tellAtom 83 = .ok (.aload_n 0, 1) := by decide +kernel
theorem dX12_tellAtom_84 : decode cX12_tellAtom 84 = .ok (.bipush 48, 2) := by decide +kernel
theorem dX12_tellAtom_86 : decode cX12_tellAtom 86 = .ok (.aload_n 0, 1) := by decide +kernel
theorem dX12_tellAtom_87 : decode cX12_tellAtom 87 = .ok (.iload_n 1, 1) := by decide +kernel
theorem dX12_tellAtom_88 : decode cX12_tellAtom 88 = .ok (.invokevirtual 321, 3) := by decide +kernel
theorem dX12_tellAtom_91 : decode cX12_tellAtom 91 = .ok (.lload_n 2, 1) := by decide +kernel
theorem dX12_tellAtom_92 : decode cX12_tellAtom 92 = .ok (.ldiv, 1) := by decide +kernel
theorem dX12_tellAtom_93 : decode cX12_tellAtom 93 = .ok (.ldc2_w 398, 3) := by decide +kernel
theorem dX12_tellAtom_96 : decode cX12_tellAtom 96 = .ok (.lrem, 1) := by decide +kernel
theorem dX12_tellAtom_97 : decode cX12_tellAtom 97 = .ok (.l2i, 1) := by decide +kernel
theorem dX12_tellAtom_98 : decode cX12_tellAtom 98 = .ok (.iadd, 1) := by decide +kernel
theorem dX12_tellAtom_99 : decode cX12_tellAtom 99 = .ok (.invokevirtual 447, 3) := by decide +kernel
theorem dX12_tellAtom_102 : decode cX12_tellAtom 102 = .ok (.lload_n 2, 1) := by decide +kernel
theorem dX12_tellAtom_103 : decode cX12_tellAtom 103 = .ok (.ldc2_w 398, 3) := by decide +kernel
theorem dX12_tellAtom_106 : decode cX12_tellAtom 106 = .ok (.ldiv, 1) := by decide +kernel
theorem dX12_tellAtom_107 : decode cX12_tellAtom 107 = .ok (.lstore_n 2, 1) := by decide +kernel
theorem dX12_tellAtom_108 : decode cX12_tellAtom 108 = .ok (.goto (-31), 3) := by decide +kernel
theorem dX12_tellAtom_111 : decode cX12_tellAtom 111 = .ok (.return_, 1) := by decide +kernel

section
variable {p : Program} {l : Launch} {e : Env} {R : Room} {s : State} {m : MethodId} {args : Array Value} {below : List Frame} {meth : Method} {c : Code} {H : Heap} {locs : List Loc} {Qf : State → Prop}
variable {ls : Array Slot} {D : va_G} {ca : Nat → ClassId} {A : Nat → Prop} {h0 : Nat} {ad : Nat → Nat} {H0 : Heap} {u : iST}
def w_tellAtom_77b (R77 : Int → Int → iST → Prop) (Q : iST → Prop) (x1 : Int) (x2 : Int) (u : iST) : Prop :=
  br (x2 ≤ 0) (
    Q u) (
    w_value x1 (fun v4 u => 
    (0 : Int) < x2 ∧ (
    (0 : Int) < 10 ∧ (
    rd (wl2i (Int.tmod (Int.tdiv v4 x2) 10)) (fun v7 => 
    ov (48 + v7) (
    w_tellLetter (48 + v7) (fun u => 
    (0 : Int) < 10 ∧ (
    R77 x1 (Int.tdiv x2 10) u)) u))))) u)
def w_tellAtom_77 (Q : iST → Prop) (x1 : Int) (x2 : Int) (u : iST) : Prop := ∀ R77 : Int → Int → iST → Prop, (∀ (x1 : Int) (x2 : Int) (u : iST), w_tellAtom_77b R77 Q x1 x2 u → R77 x1 x2 u) → R77 x1 x2 u
set_option maxRecDepth 20000 in
set_option maxHeartbeats 4000000 in
theorem b_tellAtom_77 (X : kX p m c cX12_tellAtom 4 s args D ca) (hRf : 1 ≤ R.frames) (hRl : 21 ≤ R.locals) {Q : iST → Prop} (hret : ∀ (u : iST) (H : Heap) (locs : List Loc) (ls : Array Slot) (pc : Nat), Q u → kW D ca A h0 ad H0 H locs u → decode cX12_tellAtom pc = .ok (.return_, 1) → W p l e R s m args below meth c H locs 0 0 Qf (F0 m pc ls [])) {x1 x2 : Int} (rx1 : inR x1) (rx2 : inL x2) (hw : kW D ca A h0 ad H0 H locs u) (hl : lv_has ls 4 [(0, .ref h0), (1, .int (jI x1)), (2, .long (jL x2))]) (h : w_tellAtom_77 Q x1 x2 u) : W p l e R s m args below meth c H locs 0 0 Qf (F0 m 77 ls []) := by
  refine h (fun x1 x2 u => ∀ (H : Heap) (locs : List Loc) (ls : Array Slot), inR x1 → inL x2 → kW D ca A h0 ad H0 H locs u → lv_has ls 4 [(0, .ref h0), (1, .int (jI x1)), (2, .long (jL x2))] → W p l e R s m args below meth c H locs 0 0 Qf (F0 m 77 ls [])) ?_ H locs ls rx1 rx2 hw hl
  clear h hl hw rx1 rx2
  intro x1 x2 u h H locs ls rx1 rx2 hw hl
  have hR77 : ∀ (x1 : Int) (x2 : Int) (u : iST) (H : Heap) (locs : List Loc) (ls : Array Slot), inR x1 → inL x2 → kW D ca A h0 ad H0 H locs u → lv_has ls 4 [(0, .ref h0), (1, .int (jI x1)), (2, .long (jL x2))] → (fun (x1 : Int) (x2 : Int) u => ∀ (H : Heap) (locs : List Loc) (ls : Array Slot), inR x1 → inL x2 → kW D ca A h0 ad H0 H locs u → lv_has ls 4 [(0, .ref h0), (1, .int (jI x1)), (2, .long (jL x2))] → W p l e R s m args below meth c H locs 0 0 Qf (F0 m 77 ls [])) x1 x2 u → W p l e R s m args below meth c H locs 0 0 Qf (F0 m 77 ls []) := fun x1 x2 u H locs ls rx1 rx2 hw hl h => h H locs ls rx1 rx2 hw hl
  have hx := X.1.1
  have hb := X.1.2.1
  unfold w_tellAtom_77b at h
  refine lv_lload_n hx hb dX12_tellAtom_77 rfl (lv_at hl 2 rfl) ?_
  refine lv_lconst hx hb dX12_tellAtom_78 (v := jL 0) rfl ?_
  refine k_lcmp_le hx hb rx2 (by decide) dX12_tellAtom_79 dX12_tellAtom_80 (tgt := 111) rfl h (fun h => ?_) (fun h => ?_)
  · exact hret _ _ _ _ _ h hw dX12_tellAtom_111
  · refine lv_aload_n hx hb dX12_tellAtom_83 rfl (lv_at hl 0 rfl) ?_
    refine lv_bipush hx hb dX12_tellAtom_84 (v := jI 48) rfl ?_
    refine lv_aload_n hx hb dX12_tellAtom_86 rfl (lv_at hl 0 rfl) ?_
    refine lv_iload_n hx hb dX12_tellAtom_87 rfl (lv_at hl 1 rfl) ?_
    refine kcL (n := 1) (c_value rx1 h) G_value E_value X hw (Nat.le_trans (Nat.le_of_ble_eq_true rfl) hRf) (Nat.le_trans (Nat.le_of_ble_eq_true rfl) hRl) rfl hl.1 (Nat.le_of_ble_eq_true rfl) rfl dX12_tellAtom_88 (fun v4 u H locs rv4 h hw => ?_)
    refine lv_lload_n hx hb dX12_tellAtom_91 rfl (lv_at hl 2 rfl) ?_
    refine k_ldiv hx hb rv4 rx2 dX12_tellAtom_92 h (fun r5 h => ?_)
    refine kld2 398 K_398 X dX12_tellAtom_93 ?_
    refine k_lrem hx hb r5 (by decide) dX12_tellAtom_96 h (fun r6 h => ?_)
    refine k_l2i hx hb dX12_tellAtom_97 h (fun v7 rv7 h => ?_)
    refine k_iadd hx hb dX12_tellAtom_98 h (fun r8 h => ?_)
    refine kcV (n := 1) (c_tellLetter r8 h) G_tellLetter E_tellLetter X hw (Nat.le_trans (Nat.le_of_ble_eq_true rfl) hRf) (Nat.le_trans (Nat.le_of_ble_eq_true rfl) hRl) rfl hl.1 (Nat.le_of_ble_eq_true rfl) rfl dX12_tellAtom_99 (fun u H locs h hw => ?_)
    refine lv_lload_n hx hb dX12_tellAtom_102 rfl (lv_at hl 2 rfl) ?_
    refine kld2 398 K_398 X dX12_tellAtom_103 ?_
    refine k_ldiv hx hb rx2 (by decide) dX12_tellAtom_106 h (fun r10 h => ?_)
    refine lv_lstore_n hx hb dX12_tellAtom_107 rfl hl (by decide) rfl (fun ls hl => ?_)
    have hl : lv_has ls 4 [(2, .long (jL (Int.tdiv x2 10))), (0, .ref (h0)), (1, .int (jI x1))] := hl
    refine lv_goto hx hb dX12_tellAtom_108 (tgt := 77) rfl ?_
    exact hR77 _ _ _ H locs ls rx1 r10 hw (lv_sub hl [1, 2, 0] rfl) h

def w_tellAtom_54b (R54 : Int → Int → iST → Prop) (Q : iST → Prop) (x1 : Int) (x2 : Int) (u : iST) : Prop :=
  w_value x1 (fun v2 u => 
  (0 : Int) < x2 ∧ (
  br ((Int.tdiv v2 x2) < 10) (
    w_tellAtom_77 Q x1 x2 u) (
    ol (10 * x2) (
    R54 x1 (10 * x2) u)))) u
def w_tellAtom_54 (Q : iST → Prop) (x1 : Int) (x2 : Int) (u : iST) : Prop := ∀ R54 : Int → Int → iST → Prop, (∀ (x1 : Int) (x2 : Int) (u : iST), w_tellAtom_54b R54 Q x1 x2 u → R54 x1 x2 u) → R54 x1 x2 u
set_option maxRecDepth 20000 in
set_option maxHeartbeats 4000000 in
theorem b_tellAtom_54 (X : kX p m c cX12_tellAtom 4 s args D ca) (hRf : 1 ≤ R.frames) (hRl : 21 ≤ R.locals) {Q : iST → Prop} (hret : ∀ (u : iST) (H : Heap) (locs : List Loc) (ls : Array Slot) (pc : Nat), Q u → kW D ca A h0 ad H0 H locs u → decode cX12_tellAtom pc = .ok (.return_, 1) → W p l e R s m args below meth c H locs 0 0 Qf (F0 m pc ls [])) {x1 x2 : Int} (rx1 : inR x1) (rx2 : inL x2) (hw : kW D ca A h0 ad H0 H locs u) (hl : lv_has ls 4 [(0, .ref h0), (1, .int (jI x1)), (2, .long (jL x2))]) (h : w_tellAtom_54 Q x1 x2 u) : W p l e R s m args below meth c H locs 0 0 Qf (F0 m 54 ls []) := by
  refine h (fun x1 x2 u => ∀ (H : Heap) (locs : List Loc) (ls : Array Slot), inR x1 → inL x2 → kW D ca A h0 ad H0 H locs u → lv_has ls 4 [(0, .ref h0), (1, .int (jI x1)), (2, .long (jL x2))] → W p l e R s m args below meth c H locs 0 0 Qf (F0 m 54 ls [])) ?_ H locs ls rx1 rx2 hw hl
  clear h hl hw rx1 rx2
  intro x1 x2 u h H locs ls rx1 rx2 hw hl
  have hR54 : ∀ (x1 : Int) (x2 : Int) (u : iST) (H : Heap) (locs : List Loc) (ls : Array Slot), inR x1 → inL x2 → kW D ca A h0 ad H0 H locs u → lv_has ls 4 [(0, .ref h0), (1, .int (jI x1)), (2, .long (jL x2))] → (fun (x1 : Int) (x2 : Int) u => ∀ (H : Heap) (locs : List Loc) (ls : Array Slot), inR x1 → inL x2 → kW D ca A h0 ad H0 H locs u → lv_has ls 4 [(0, .ref h0), (1, .int (jI x1)), (2, .long (jL x2))] → W p l e R s m args below meth c H locs 0 0 Qf (F0 m 54 ls [])) x1 x2 u → W p l e R s m args below meth c H locs 0 0 Qf (F0 m 54 ls []) := fun x1 x2 u H locs ls rx1 rx2 hw hl h => h H locs ls rx1 rx2 hw hl
  have hx := X.1.1
  have hb := X.1.2.1
  unfold w_tellAtom_54b at h
  refine lv_aload_n hx hb dX12_tellAtom_54 rfl (lv_at hl 0 rfl) ?_
  refine lv_iload_n hx hb dX12_tellAtom_55 rfl (lv_at hl 1 rfl) ?_
  refine kcL (n := 1) (c_value rx1 h) G_value E_value X hw (Nat.le_trans (Nat.le_of_ble_eq_true rfl) hRf) (Nat.le_trans (Nat.le_of_ble_eq_true rfl) hRl) rfl hl.1 (Nat.le_of_ble_eq_true rfl) rfl dX12_tellAtom_56 (fun v2 u H locs rv2 h hw => ?_)
  refine lv_lload_n hx hb dX12_tellAtom_59 rfl (lv_at hl 2 rfl) ?_
  refine k_ldiv hx hb rv2 rx2 dX12_tellAtom_60 h (fun r3 h => ?_)
  refine kld2 398 K_398 X dX12_tellAtom_61 ?_
  refine k_lcmp_lt hx hb r3 (by decide) dX12_tellAtom_64 dX12_tellAtom_65 (tgt := 77) rfl h (fun h => ?_) (fun h => ?_)
  · exact b_tellAtom_77 X hRf hRl hret rx1 rx2 hw hl h
  · refine kld2 398 K_398 X dX12_tellAtom_68 ?_
    refine lv_lload_n hx hb dX12_tellAtom_71 rfl (lv_at hl 2 rfl) ?_
    refine k_lmul hx hb dX12_tellAtom_72 h (fun r11 h => ?_)
    refine lv_lstore_n hx hb dX12_tellAtom_73 rfl hl (by decide) rfl (fun ls hl => ?_)
    have hl : lv_has ls 4 [(2, .long (jL (10 * x2))), (0, .ref (h0)), (1, .int (jI x1))] := hl
    refine lv_goto hx hb dX12_tellAtom_74 (tgt := 54) rfl ?_
    exact hR54 _ _ _ H locs ls rx1 r11 hw (lv_sub hl [1, 2, 0] rfl) h

def w_tellAtom_10b (R10 : Int → Int → iST → Prop) (Q : iST → Prop) (x1 : Int) (x2 : Int) (u : iST) : Prop :=
  bd x1 452000 (rd (u.2.1 1 x1) (fun v12 => 
  bd v12 21000 (rd (u.2.1 10 v12) (fun v13 => 
  br (v13 ≤ x2) (
    Q u) (
    bd x1 452000 (rd (u.2.1 1 x1) (fun v14 => 
    ov (12 * v14) (
    ov ((12 * v14) + x2) (
    bd ((12 * v14) + x2) 252000 (rd (u.2.1 9 ((12 * v14) + x2)) (fun v17 => 
    w_tellLetter v17 (fun u => 
    ov (x2 + 1) (
    R10 x1 (x2 + 1) u)) u)))))))))))
def w_tellAtom_10 (Q : iST → Prop) (x1 : Int) (x2 : Int) (u : iST) : Prop := ∀ R10 : Int → Int → iST → Prop, (∀ (x1 : Int) (x2 : Int) (u : iST), w_tellAtom_10b R10 Q x1 x2 u → R10 x1 x2 u) → R10 x1 x2 u
set_option maxRecDepth 20000 in
set_option maxHeartbeats 4000000 in
theorem b_tellAtom_10 (X : kX p m c cX12_tellAtom 4 s args D ca) (hRf : 1 ≤ R.frames) (hRl : 21 ≤ R.locals) {Q : iST → Prop} (hret : ∀ (u : iST) (H : Heap) (locs : List Loc) (ls : Array Slot) (pc : Nat), Q u → kW D ca A h0 ad H0 H locs u → decode cX12_tellAtom pc = .ok (.return_, 1) → W p l e R s m args below meth c H locs 0 0 Qf (F0 m pc ls [])) {x1 x2 : Int} (rx1 : inR x1) (rx2 : inR x2) (hw : kW D ca A h0 ad H0 H locs u) (hl : lv_has ls 4 [(0, .ref h0), (1, .int (jI x1)), (2, .int (jI x2))]) (h : w_tellAtom_10 Q x1 x2 u) : W p l e R s m args below meth c H locs 0 0 Qf (F0 m 10 ls []) := by
  refine h (fun x1 x2 u => ∀ (H : Heap) (locs : List Loc) (ls : Array Slot), inR x1 → inR x2 → kW D ca A h0 ad H0 H locs u → lv_has ls 4 [(0, .ref h0), (1, .int (jI x1)), (2, .int (jI x2))] → W p l e R s m args below meth c H locs 0 0 Qf (F0 m 10 ls [])) ?_ H locs ls rx1 rx2 hw hl
  clear h hl hw rx1 rx2
  intro x1 x2 u h H locs ls rx1 rx2 hw hl
  have hR10 : ∀ (x1 : Int) (x2 : Int) (u : iST) (H : Heap) (locs : List Loc) (ls : Array Slot), inR x1 → inR x2 → kW D ca A h0 ad H0 H locs u → lv_has ls 4 [(0, .ref h0), (1, .int (jI x1)), (2, .int (jI x2))] → (fun (x1 : Int) (x2 : Int) u => ∀ (H : Heap) (locs : List Loc) (ls : Array Slot), inR x1 → inR x2 → kW D ca A h0 ad H0 H locs u → lv_has ls 4 [(0, .ref h0), (1, .int (jI x1)), (2, .int (jI x2))] → W p l e R s m args below meth c H locs 0 0 Qf (F0 m 10 ls [])) x1 x2 u → W p l e R s m args below meth c H locs 0 0 Qf (F0 m 10 ls []) := fun x1 x2 u H locs ls rx1 rx2 hw hl h => h H locs ls rx1 rx2 hw hl
  have hx := X.1.1
  have hb := X.1.2.1
  unfold w_tellAtom_10b at h
  refine lv_iload_n hx hb dX12_tellAtom_10 rfl (lv_at hl 2 rfl) ?_
  refine lv_aload_n hx hb dX12_tellAtom_11 rfl (lv_at hl 0 rfl) ?_
  refine gA 10 38 (by decide) L_10 (fun _ _ => mF_10) rfl X hw dX12_tellAtom_12 ?_
  refine lv_aload_n hx hb dX12_tellAtom_15 rfl (lv_at hl 0 rfl) ?_
  refine gA 1 14 (by decide) L_1 (fun _ _ => mF_1) rfl X hw dX12_tellAtom_16 ?_
  refine lv_iload_n hx hb dX12_tellAtom_19 rfl (lv_at hl 1 rfl) ?_
  refine aL 1 2 1 452000 (fun _ _ _ _ => mG_1) (fun _ => rfl) X hw rx1 dX12_tellAtom_20 rfl h (fun v12 rv12 h => ?_)
  refine aL 10 9 8 21000 (fun _ _ _ _ => mG_10) (fun _ => rfl) X hw rv12 dX12_tellAtom_21 rfl h (fun v13 rv13 h => ?_)
  refine k_icmp_ge hx hb rx2 rv13 dX12_tellAtom_22 (tgt := 51) rfl h (fun h => ?_) (fun h => ?_)
  · exact hret _ _ _ _ _ h hw dX12_tellAtom_51
  · refine lv_aload_n hx hb dX12_tellAtom_25 rfl (lv_at hl 0 rfl) ?_
    refine lv_aload_n hx hb dX12_tellAtom_26 rfl (lv_at hl 0 rfl) ?_
    refine gA 9 35 (by decide) L_9 (fun _ _ => mF_9) rfl X hw dX12_tellAtom_27 ?_
    refine lv_bipush hx hb dX12_tellAtom_30 (v := jI 12) rfl ?_
    refine lv_aload_n hx hb dX12_tellAtom_32 rfl (lv_at hl 0 rfl) ?_
    refine gA 1 14 (by decide) L_1 (fun _ _ => mF_1) rfl X hw dX12_tellAtom_33 ?_
    refine lv_iload_n hx hb dX12_tellAtom_36 rfl (lv_at hl 1 rfl) ?_
    refine aL 1 2 1 452000 (fun _ _ _ _ => mG_1) (fun _ => rfl) X hw rx1 dX12_tellAtom_37 rfl h (fun v14 rv14 h => ?_)
    refine k_imul hx hb dX12_tellAtom_38 h (fun r15 h => ?_)
    refine lv_iload_n hx hb dX12_tellAtom_39 rfl (lv_at hl 2 rfl) ?_
    refine k_iadd hx hb dX12_tellAtom_40 h (fun r16 h => ?_)
    refine aL 9 8 7 252000 (fun _ _ _ _ => mG_9) (fun _ => rfl) X hw r16 dX12_tellAtom_41 rfl h (fun v17 rv17 h => ?_)
    refine kcV (n := 1) (c_tellLetter rv17 h) G_tellLetter E_tellLetter X hw (Nat.le_trans (Nat.le_of_ble_eq_true rfl) hRf) (Nat.le_trans (Nat.le_of_ble_eq_true rfl) hRl) rfl hl.1 (Nat.le_of_ble_eq_true rfl) rfl dX12_tellAtom_42 (fun u H locs h hw => ?_)
    refine k_iinc (k := 2) hx hb dX12_tellAtom_45 hl rfl (by decide) rfl h (fun ls r19 h hl => ?_)
    have hl : lv_has ls 4 [(2, .int (jI (x2 + 1))), (0, .ref (h0)), (1, .int (jI x1))] := hl
    refine lv_goto hx hb dX12_tellAtom_48 (tgt := 10) rfl ?_
    exact hR10 _ _ _ H locs ls rx1 r19 hw (lv_sub hl [1, 2, 0] rfl) h

def w_tellAtom (a0 : Int) (Q : iST → Prop) (u : iST) : Prop :=
  w_isSymbol a0 (fun v1 u => 
  br (v1 = 0) (
    w_tellAtom_54 Q a0 1 u) (
    w_tellAtom_10 Q a0 0 u)) u
set_option maxRecDepth 20000 in
set_option maxHeartbeats 4000000 in
theorem b_tellAtom_s (X : kX p m c cX12_tellAtom 4 s args D ca) (hRf : 1 ≤ R.frames) (hRl : 21 ≤ R.locals) {Q : iST → Prop} (hret : ∀ (u : iST) (H : Heap) (locs : List Loc) (ls : Array Slot) (pc : Nat), Q u → kW D ca A h0 ad H0 H locs u → decode cX12_tellAtom pc = .ok (.return_, 1) → W p l e R s m args below meth c H locs 0 0 Qf (F0 m pc ls [])) {a0 : Int} (ra0 : inR a0) (hw : kW D ca A h0 ad H0 H locs u) (hl : lv_has ls 4 [(0, .ref h0), (1, .int (jI a0))]) (h : w_tellAtom a0 Q u) : W p l e R s m args below meth c H locs 0 0 Qf (F0 m 0 ls []) := by
  have hx := X.1.1
  have hb := X.1.2.1
  unfold w_tellAtom at h
  refine lv_aload_n hx hb dX12_tellAtom_0 rfl (lv_at hl 0 rfl) ?_
  refine lv_iload_n hx hb dX12_tellAtom_1 rfl (lv_at hl 1 rfl) ?_
  refine kcI (n := 1) (c_isSymbol ra0 h) G_isSymbol E_isSymbol X hw (Nat.le_trans (Nat.le_of_ble_eq_true rfl) hRf) (Nat.le_trans (Nat.le_of_ble_eq_true rfl) hRl) rfl hl.1 (Nat.le_of_ble_eq_true rfl) rfl dX12_tellAtom_2 (fun v1 u H locs rv1 h hw => ?_)
  refine k_if_eq hx hb rv1 dX12_tellAtom_5 (tgt := 52) rfl h (fun h => ?_) (fun h => ?_)
  · refine lv_lconst hx hb dX12_tellAtom_52 (v := jL 1) rfl ?_
    refine lv_lstore_n hx hb dX12_tellAtom_53 rfl hl (by decide) rfl (fun ls hl => ?_)
    have hl : lv_has ls 4 [(2, .long (jL 1)), (0, .ref (h0)), (1, .int (jI a0))] := hl
    exact b_tellAtom_54 X hRf hRl hret ra0 (by decide) hw (lv_sub hl [1, 2, 0] rfl) h
  · refine lv_iconst hx hb dX12_tellAtom_8 (v := jI 0) rfl ?_
    refine lv_istore_n hx hb dX12_tellAtom_9 rfl hl (by decide) rfl (fun ls hl => ?_)
    have hl : lv_has ls 4 [(2, .int (jI 0)), (0, .ref (h0)), (1, .int (jI a0))] := hl
    exact b_tellAtom_10 X hRf hRl hret ra0 (by decide) hw (lv_sub hl [1, 2, 0] rfl) h

end
theorem c_tellAtom {l : Launch} {a0 : Int} (ra0 : inR a0) {Q : iST → Prop} {u : iST} (h : w_tellAtom a0 Q u) : kMV l yX12_tellAtom (.code yX12_tellAtom cX12_tellAtom 4 none :: wsM) { frames := 1, cells := 0, slots := 0, locals := 21 } [.int (jI a0)] Q u := kMV_of rfl (fun _ => Nat.le_of_ble_eq_true rfl) (fun X hRf hRl hret hw hl => b_tellAtom_s X hRf hRl hret ra0 hw hl h)

/-! isQuoted -/
theorem dX12_isQuoted_0 : decode cX12_isQuoted 0 = .ok (.aload_n 0, 1) := by decide +kernel
theorem dX12_isQuoted_1 : decode cX12_isQuoted 1 = .ok (.iload_n 1, 1) := by decide +kernel
theorem dX12_isQuoted_2 : decode cX12_isQuoted 2 = .ok (.invokevirtual 365, 3) := by decide +kernel
theorem dX12_isQuoted_5 : decode cX12_isQuoted 5 = .ok (.ifCond .eq 44, 3) := by decide +kernel
theorem dX12_isQuoted_8 : decode cX12_isQuoted 8 = .ok (.aload_n 0, 1) := by decide +kernel
theorem dX12_isQuoted_9 : decode cX12_isQuoted 9 = .ok (.getfield 8, 3) := by decide +kernel
theorem dX12_isQuoted_12 : decode cX12_isQuoted 12 = .ok (.iload_n 1, 1) := by decide +kernel
theorem dX12_isQuoted_13 : decode cX12_isQuoted 13 = .ok (.iaload, 1) := by decide +kernel
theorem dX12_isQuoted_14 : decode cX12_isQuoted 14 = .ok (.iconst 2, 1) := by decide +kernel
theorem dX12_isQuoted_15 : decode cX12_isQuoted 15 = .ok (.if_icmp .ne 34, 3) := by decide +kernel
theorem dX12_isQuoted_18 : decode cX12_isQuoted 18 = .ok (.aload_n 0, 1) := by decide +kernel
theorem dX12_isQuoted_19 : decode cX12_isQuoted 19 = .ok (.aload_n 0, 1) := by decide +kernel
theorem dX12_isQuoted_20 : decode cX12_isQuoted 20 = .ok (.getfield 14, 3) := by decide +kernel
theorem dX12_isQuoted_23 : decode cX12_isQuoted 23 = .ok (.iload_n 1, 1) := by decide +kernel
theorem dX12_isQuoted_24 : decode cX12_isQuoted 24 = .ok (.iaload, 1) := by decide +kernel
theorem dX12_isQuoted_25 : decode cX12_isQuoted 25 = .ok (.invokevirtual 365, 3) := by decide +kernel
theorem dX12_isQuoted_28 : decode cX12_isQuoted 28 = .ok (.ifCond .eq 21, 3) := by decide +kernel
theorem dX12_isQuoted_31 : decode cX12_isQuoted 31 = .ok (.aload_n 0, 1) := by decide +kernel
theorem dX12_isQuoted_32 : decode cX12_isQuoted 32 = .ok (.getfield 14, 3) := by decide +kernel
theorem dX12_isQuoted_35 : decode cX12_isQuoted 35 = .ok (.aload_n 0, 1) := by decide +kernel
theorem dX12_isQuoted_36 : decode cX12_isQuoted 36 = .ok (.getfield 14, 3) := by decide +kernel
theorem dX12_isQuoted_39 : decode cX12_isQuoted 39 = .ok (.iload_n 1, 1) := by decide +kernel
theorem dX12_isQuoted_40 : decode cX12_isQuoted 40 = .ok (.iaload, 1) := by decide +kernel
theorem dX12_isQuoted_41 : decode cX12_isQuoted 41 = .ok (.iaload, 1) := by decide +kernel
theorem dX12_isQuoted_42 : decode cX12_isQuoted 42 = .ok (.ifCond .ne 7, 3) := by decide +kernel
theorem dX12_isQuoted_45 : decode cX12_isQuoted 45 = .ok (.iconst 1, 1) := by decide +kernel
theorem dX12_isQuoted_46 : decode cX12_isQuoted 46 = .ok (.goto 4, 3) := by decide +kernel
theorem dX12_isQuoted_49 : decode cX12_isQuoted 49 = .ok (.iconst 0, 1) := by decide +kernel
theorem dX12_isQuoted_50 : decode cX12_isQuoted 50 = .ok (.ireturn, 1) := by decide +kernel

section
variable {p : Program} {l : Launch} {e : Env} {R : Room} {s : State} {m : MethodId} {args : Array Value} {below : List Frame} {meth : Method} {c : Code} {H : Heap} {locs : List Loc} {Qf : State → Prop}
variable {ls : Array Slot} {D : va_G} {ca : Nat → ClassId} {A : Nat → Prop} {h0 : Nat} {ad : Nat → Nat} {H0 : Heap} {u : iST}
def w_isQuoted (a0 : Int) (Q : Int → iST → Prop) (u : iST) : Prop :=
  w_isPair a0 (fun v1 u => 
  br (v1 = 0) (
    zt 0 (Q 0 u)) (
    bd a0 452000 (rd (u.2.1 0 a0) (fun v2 => 
    br (v2 ≠ 2) (
      zt 0 (Q 0 u)) (
      bd a0 452000 (rd (u.2.1 1 a0) (fun v3 => 
      w_isPair v3 (fun v4 u => 
      br (v4 = 0) (
        zt 0 (Q 0 u)) (
        bd a0 452000 (rd (u.2.1 1 a0) (fun v5 => 
        bd v5 452000 (rd (u.2.1 1 v5) (fun v6 => 
        br (v6 ≠ 0) (
          zt 0 (Q 0 u)) (
          zt 1 (Q 1 u)))))))) u))))))) u
set_option maxRecDepth 20000 in
set_option maxHeartbeats 4000000 in
theorem b_isQuoted_s (X : kX p m c cX12_isQuoted 2 s args D ca) (hRf : 1 ≤ R.frames) (hRl : 21 ≤ R.locals) {Q : Int → iST → Prop} (hret : ∀ (v : Int) (u : iST) (H : Heap) (locs : List Loc) (ls : Array Slot) (pc : Nat), bz v → Q v u → kW D ca A h0 ad H0 H locs u → decode cX12_isQuoted pc = .ok (.ireturn, 1) → W p l e R s m args below meth c H locs 0 0 Qf (F0 m pc ls [.int (jI v)])) {a0 : Int} (ra0 : inR a0) (hw : kW D ca A h0 ad H0 H locs u) (hl : lv_has ls 2 [(0, .ref h0), (1, .int (jI a0))]) (h : w_isQuoted a0 Q u) : W p l e R s m args below meth c H locs 0 0 Qf (F0 m 0 ls []) := by
  have hx := X.1.1
  have hb := X.1.2.1
  unfold w_isQuoted at h
  refine lv_aload_n hx hb dX12_isQuoted_0 rfl (lv_at hl 0 rfl) ?_
  refine lv_iload_n hx hb dX12_isQuoted_1 rfl (lv_at hl 1 rfl) ?_
  refine kcI (n := 1) (c_isPair ra0 h) G_isPair E_isPair X hw (Nat.le_trans (Nat.le_of_ble_eq_true rfl) hRf) (Nat.le_trans (Nat.le_of_ble_eq_true rfl) hRl) rfl hl.1 (Nat.le_of_ble_eq_true rfl) rfl dX12_isQuoted_2 (fun v1 u H locs rv1 h hw => ?_)
  refine k_if_eq hx hb rv1 dX12_isQuoted_5 (tgt := 49) rfl h (fun h => ?_) (fun h => ?_)
  · refine lv_iconst hx hb dX12_isQuoted_49 (v := jI 0) rfl ?_
    exact hret _ _ _ _ _ _ h.1 h.2 hw dX12_isQuoted_50
  · refine lv_aload_n hx hb dX12_isQuoted_8 rfl (lv_at hl 0 rfl) ?_
    refine gA 0 8 (by decide) L_0 (fun _ _ => mF_0) rfl X hw dX12_isQuoted_9 ?_
    refine lv_iload_n hx hb dX12_isQuoted_12 rfl (lv_at hl 1 rfl) ?_
    refine aL 0 1 0 452000 (fun _ _ _ _ => mG_0) (fun _ => rfl) X hw ra0 dX12_isQuoted_13 rfl h (fun v2 rv2 h => ?_)
    refine lv_iconst hx hb dX12_isQuoted_14 (v := jI 2) rfl ?_
    refine k_icmp_ne hx hb rv2 (by decide) dX12_isQuoted_15 (tgt := 49) rfl h (fun h => ?_) (fun h => ?_)
    · refine lv_iconst hx hb dX12_isQuoted_49 (v := jI 0) rfl ?_
      exact hret _ _ _ _ _ _ h.1 h.2 hw dX12_isQuoted_50
    · refine lv_aload_n hx hb dX12_isQuoted_18 rfl (lv_at hl 0 rfl) ?_
      refine lv_aload_n hx hb dX12_isQuoted_19 rfl (lv_at hl 0 rfl) ?_
      refine gA 1 14 (by decide) L_1 (fun _ _ => mF_1) rfl X hw dX12_isQuoted_20 ?_
      refine lv_iload_n hx hb dX12_isQuoted_23 rfl (lv_at hl 1 rfl) ?_
      refine aL 1 2 1 452000 (fun _ _ _ _ => mG_1) (fun _ => rfl) X hw ra0 dX12_isQuoted_24 rfl h (fun v3 rv3 h => ?_)
      refine kcI (n := 1) (c_isPair rv3 h) G_isPair E_isPair X hw (Nat.le_trans (Nat.le_of_ble_eq_true rfl) hRf) (Nat.le_trans (Nat.le_of_ble_eq_true rfl) hRl) rfl hl.1 (Nat.le_of_ble_eq_true rfl) rfl dX12_isQuoted_25 (fun v4 u H locs rv4 h hw => ?_)
      refine k_if_eq hx hb rv4 dX12_isQuoted_28 (tgt := 49) rfl h (fun h => ?_) (fun h => ?_)
      · refine lv_iconst hx hb dX12_isQuoted_49 (v := jI 0) rfl ?_
        exact hret _ _ _ _ _ _ h.1 h.2 hw dX12_isQuoted_50
      · refine lv_aload_n hx hb dX12_isQuoted_31 rfl (lv_at hl 0 rfl) ?_
        refine gA 1 14 (by decide) L_1 (fun _ _ => mF_1) rfl X hw dX12_isQuoted_32 ?_
        refine lv_aload_n hx hb dX12_isQuoted_35 rfl (lv_at hl 0 rfl) ?_
        refine gA 1 14 (by decide) L_1 (fun _ _ => mF_1) rfl X hw dX12_isQuoted_36 ?_
        refine lv_iload_n hx hb dX12_isQuoted_39 rfl (lv_at hl 1 rfl) ?_
        refine aL 1 2 1 452000 (fun _ _ _ _ => mG_1) (fun _ => rfl) X hw ra0 dX12_isQuoted_40 rfl h (fun v5 rv5 h => ?_)
        refine aL 1 2 1 452000 (fun _ _ _ _ => mG_1) (fun _ => rfl) X hw rv5 dX12_isQuoted_41 rfl h (fun v6 rv6 h => ?_)
        refine k_if_ne hx hb rv6 dX12_isQuoted_42 (tgt := 49) rfl h (fun h => ?_) (fun h => ?_)
        · refine lv_iconst hx hb dX12_isQuoted_49 (v := jI 0) rfl ?_
          exact hret _ _ _ _ _ _ h.1 h.2 hw dX12_isQuoted_50
        · refine lv_iconst hx hb dX12_isQuoted_45 (v := jI 1) rfl ?_
          refine lv_goto hx hb dX12_isQuoted_46 (tgt := 50) rfl ?_
          exact hret _ _ _ _ _ _ h.1 h.2 hw dX12_isQuoted_50

end
theorem c_isQuoted {l : Launch} {a0 : Int} (ra0 : inR a0) {Q : Int → iST → Prop} {u : iST} (h : w_isQuoted a0 Q u) : kMI l yX12_isQuoted (.code yX12_isQuoted cX12_isQuoted 2 (some .boolean) :: wsM) { frames := 1, cells := 0, slots := 0, locals := 21 } [.int (jI a0)] Q u := kMZ_of rfl (fun _ => Nat.le_of_ble_eq_true rfl) (fun X hRf hRl hret hw hl => b_isQuoted_s X hRf hRl hret ra0 hw hl h)

/-! later -/
theorem dX12_later_0 : decode cX12_later 0 = .ok (.aload_n 0, 1) := by decide +kernel
theorem dX12_later_1 : decode cX12_later 1 = .ok (.getfield 53, 3) := by decide +kernel
theorem dX12_later_4 : decode cX12_later 4 = .ok (.aload_n 0, 1) := by decide +kernel
theorem dX12_later_5 : decode cX12_later 5 = .ok (.getfield 450, 3) := by decide +kernel
theorem dX12_later_8 : decode cX12_later 8 = .ok (.iload_n 1, 1) := by decide +kernel
theorem dX12_later_9 : decode cX12_later 9 = .ok (.iastore, 1) := by decide +kernel
theorem dX12_later_10 : decode cX12_later 10 = .ok (.aload_n 0, 1) := by decide +kernel
theorem dX12_later_11 : decode cX12_later 11 = .ok (.dup, 1) := by decide +kernel
theorem dX12_later_12 : decode cX12_later 12 = .ok (.getfield 450, 3) := by decide +kernel
theorem dX12_later_15 : decode cX12_later 15 = .ok (.iconst 1, 1) := by decide +kernel
theorem dX12_later_16 : decode cX12_later 16 = .ok (.iadd, 1) := by decide +kernel
theorem dX12_later_17 : decode cX12_later 17 = .ok (.putfield 450, 3) := by decide +kernel
theorem dX12_later_20 : decode cX12_later 20 = .ok (.return_, 1) := by decide +kernel

section
variable {p : Program} {l : Launch} {e : Env} {R : Room} {s : State} {m : MethodId} {args : Array Value} {below : List Frame} {meth : Method} {c : Code} {H : Heap} {locs : List Loc} {Qf : State → Prop}
variable {ls : Array Slot} {D : va_G} {ca : Nat → ClassId} {A : Nat → Prop} {h0 : Nat} {ad : Nat → Nat} {H0 : Heap} {u : iST}
def w_later (a0 : Int) (Q : iST → Prop) (u : iST) : Prop :=
  rd (u.1 20) (fun v1 => 
  bd v1 4000 (sw (iA u 19 v1 a0) (fun u => 
  rd (u.1 20) (fun v2 => 
  ov (v2 + 1) (
  sw (iI u 20 (v2 + 1)) (fun u => 
  Q u))))))
set_option maxRecDepth 20000 in
set_option maxHeartbeats 4000000 in
theorem b_later_s (X : kX p m c cX12_later 2 s args D ca) (hRf : 0 ≤ R.frames) (hRl : 0 ≤ R.locals) {Q : iST → Prop} (hret : ∀ (u : iST) (H : Heap) (locs : List Loc) (ls : Array Slot) (pc : Nat), Q u → kW D ca A h0 ad H0 H locs u → decode cX12_later pc = .ok (.return_, 1) → W p l e R s m args below meth c H locs 0 0 Qf (F0 m pc ls [])) {a0 : Int} (ra0 : inR a0) (hw : kW D ca A h0 ad H0 H locs u) (hl : lv_has ls 2 [(0, .ref h0), (1, .int (jI a0))]) (h : w_later a0 Q u) : W p l e R s m args below meth c H locs 0 0 Qf (F0 m 0 ls []) := by
  have hx := X.1.1
  have hb := X.1.2.1
  unfold w_later at h
  refine lv_aload_n hx hb dX12_later_0 rfl (lv_at hl 0 rfl) ?_
  refine gA 19 53 (by decide) L_19 (fun _ _ => mF_19) rfl X hw dX12_later_1 ?_
  refine lv_aload_n hx hb dX12_later_4 rfl (lv_at hl 0 rfl) ?_
  refine gS 20 450 (by decide) L_20 (fun _ _ => mF_20) rfl X hw dX12_later_5 h (fun v1 rv1 h => ?_)
  refine lv_iload_n hx hb dX12_later_8 rfl (lv_at hl 1 rfl) ?_
  refine aS 19 14 13 4000 (fun _ _ _ _ => mG_19) (fun _ => rfl) (fun _ _ _ _ _ _ => mSA_19) (by decide) X hw rv1 ra0 dX12_later_9 rfl h (fun H locs u hw h => ?_)
  refine lv_aload_n hx hb dX12_later_10 rfl (lv_at hl 0 rfl) ?_
  refine lv_dup hx hb dX12_later_11 rfl ?_
  refine gS 20 450 (by decide) L_20 (fun _ _ => mF_20) rfl X hw dX12_later_12 h (fun v2 rv2 h => ?_)
  refine lv_iconst hx hb dX12_later_15 (v := jI 1) rfl ?_
  refine k_iadd hx hb dX12_later_16 h (fun r3 h => ?_)
  refine pS 20 450 (by decide) L_20 rfl rfl rfl (fun _ _ _ _ _ => mSI_20) (by decide) X hw r3 dX12_later_17 h (fun H locs u hw h => ?_)
  exact hret _ _ _ _ _ h hw dX12_later_20

end
theorem c_later {l : Launch} {a0 : Int} (ra0 : inR a0) {Q : iST → Prop} {u : iST} (h : w_later a0 Q u) : kMV l yX12_later (.code yX12_later cX12_later 2 none :: wsM) { frames := 0, cells := 0, slots := 0, locals := 0 } [.int (jI a0)] Q u := kMV_of rfl (fun _ => Nat.le_of_ble_eq_true rfl) (fun X hRf hRl hret hw hl => b_later_s X hRf hRl hret ra0 hw hl h)

/-! tellObject -/
theorem dX12_tellObject_0 : decode cX12_tellObject 0 = .ok (.aload_n 0, 1) := by decide +kernel
theorem dX12_tellObject_1 : decode cX12_tellObject 1 = .ok (.iconst 0, 1) := by decide +kernel
theorem dX12_tellObject_2 : decode cX12_tellObject 2 = .ok (.putfield 450, 3) := by decide +kernel
theorem dX12_tellObject_5 : decode cX12_tellObject 5 = .ok (.aload_n 0, 1) := by decide +kernel
theorem dX12_tellObject_6 : decode cX12_tellObject 6 = .ok (.iconst 2, 1) := by decide +kernel
theorem dX12_tellObject_7 : decode cX12_tellObject 7 = .ok (.iload_n 1, 1) := by decide +kernel
theorem dX12_tellObject_8 : decode cX12_tellObject 8 = .ok (.imul, 1) := by decide +kernel
theorem dX12_tellObject_9 : decode cX12_tellObject 9 = .ok (.invokevirtual 453, 3) := by decide +kernel
theorem dX12_tellObject_12 : decode cX12_tellObject 12 = .ok (.aload_n 0, 1) := by decide +kernel
theorem dX12_tellObject_13 : decode cX12_tellObject 13 = .ok (.getfield 450, 3) := by decide +kernel
theorem dX12_tellObject_16 : decode cX12_tellObject 16 = .ok (.ifCond .le 213, 3) := by decide +kernel
theorem dX12_tellObject_19 : decode cX12_tellObject 19 = .ok (.aload_n 0, 1) := by decide +kernel
theorem dX12_tellObject_20 : decode cX12_tellObject 20 = .ok (.invokevirtual 456, 3) := by decide +kernel
theorem dX12_tellObject_23 : decode cX12_tellObject 23 = .ok (.ifCond .ne 206, 3) := by decide +kernel
theorem dX12_tellObject_26 : decode cX12_tellObject 26 = .ok (.aload_n 0, 1) := by decide +kernel
theorem dX12_tellObject_27 : decode cX12_tellObject 27 = .ok (.dup, 1) := by decide +kernel
theorem dX12_tellObject_28 : decode cX12_tellObject 28 = .ok (.getfield 450, 3) := by decide +kernel
theorem dX12_tellObject_31 : decode cX12_tellObject 31 = .ok (.iconst 1, 1) := by decide +kernel
theorem dX12_tellObject_32 : decode cX12_tellObject 32 = .ok (.isub, 1) := by decide +kernel
theorem dX12_tellObject_33 : decode cX12_tellObject 33 = .ok (.putfield 450, 3) := by decide +kernel
theorem dX12_tellObject_36 : decode cX12_tellObject 36 = .ok (.aload_n 0, 1) := by decide +kernel
theorem dX12_tellObject_37 : decode cX12_tellObject 37 = .ok (.getfield 53, 3) := by decide +kernel
theorem dX12_tellObject_40 : decode cX12_tellObject 40 = .ok (.aload_n 0, 1) := by decide +kernel
theorem dX12_tellObject_41 : decode cX12_tellObject 41 = .ok (.getfield 450, 3) := by decide +kernel
theorem dX12_tellObject_44 : decode cX12_tellObject 44 = .ok (.iaload, 1) := by decide +kernel
theorem dX12_tellObject_45 : decode cX12_tellObject 45 = .ok (.istore_n 2, 1) := by decide +kernel
theorem dX12_tellObject_46 : decode cX12_tellObject 46 = .ok (.iload_n 2, 1) := by decide +kernel
theorem dX12_tellObject_47 : decode cX12_tellObject 47 = .ok (.iconst 2, 1) := by decide +kernel
theorem dX12_tellObject_48 : decode cX12_tellObject 48 = .ok (.idiv, 1) := by decide +kernel
theorem dX12_tellObject_49 : decode cX12_tellObject 49 = .ok (.istore_n 3, 1) := by decide +kernel
theorem dX12_tellObject_50 : decode cX12_tellObject 50 = .ok (.iload_n 2, 1) := by decide +kernel
theorem dX12_tellObject_51 : decode cX12_tellObject 51 = .ok (.iconst 2, 1) := by decide +kernel
theorem dX12_tellObject_52 : decode cX12_tellObject 52 = .ok (.irem, 1) := by decide +kernel
theorem dX12_tellObject_53 : decode cX12_tellObject 53 = .ok (.ifCond .ne 88, 3) := by decide +kernel
theorem dX12_tellObject_56 : decode cX12_tellObject 56 = .ok (.aload_n 0, 1) := by decide +kernel
theorem dX12_tellObject_57 : decode cX12_tellObject 57 = .ok (.iload_n 3, 1) := by decide +kernel
theorem dX12_tellObject_58 : decode cX12_tellObject 58 = .ok (.invokevirtual 365, 3) := by decide +kernel
theorem dX12_tellObject_61 : decode cX12_tellObject 61 = .ok (.ifCond .ne 11, 3) := by decide +kernel
theorem dX12_tellObject_64 : decode cX12_tellObject 64 = .ok (.aload_n 0, 1) := by decide +kernel
theorem dX12_tellObject_65 : decode cX12_tellObject 65 = .ok (.iload_n 3, 1) := by decide +kernel
theorem dX12_tellObject_66 : decode cX12_tellObject 66 = .ok (.invokevirtual 459, 3) := by decide +kernel
theorem dX12_tellObject_69 : decode cX12_tellObject 69 = .ok (.goto 157, 3) := by decide +kernel
theorem dX12_tellObject_72 : decode cX12_tellObject 72 = .ok (.aload_n 0, 1) := by decide +kernel
theorem dX12_tellObject_73 : decode cX12_tellObject 73 = .ok (.iload_n 3, 1) := by decide +kernel
theorem dX12_tellObject_74 : decode cX12_tellObject 74 = .ok (.invokevirtual 462, 3) := by decide +kernel
theorem dX12_tellObject_77 : decode cX12_tellObject 77 = .ok (.ifCond .eq 29, 3) := by decide +kernel
theorem dX12_tellObject_80 : decode cX12_tellObject 80 = .ok (.aload_n 0, 1) := by decide +kernel
theorem dX12_tellObject_81 : decode cX12_tellObject 81 = .ok (.bipush 39, 2) := by decide +kernel
theorem dX12_tellObject_83 : decode cX12_tellObject 83 = .ok (.invokevirtual 447, 3) := by decide +kernel
theorem dX12_tellObject_86 : decode cX12_tellObject 86 = .ok (.aload_n 0, 1) := by decide +kernel
theorem dX12_tellObject_87 : decode cX12_tellObject 87 = .ok (.iconst 2, 1) := by decide +kernel
theorem dX12_tellObject_88 : decode cX12_tellObject 88 = .ok (.aload_n 0, 1) := by decide +kernel
theorem dX12_tellObject_89 : decode cX12_tellObject 89 = .ok (.getfield 8, 3) := by decide +kernel
theorem dX12_tellObject_92 : decode cX12_tellObject 92 = .ok (.aload_n 0, 1) := by decide +kernel
theorem dX12_tellObject_93 : decode cX12_tellObject 93 = .ok (.getfield 14, 3) := by decide +kernel
theorem dX12_tellObject_96 : decode cX12_tellObject 96 = .ok (.iload_n 3, 1) := by decide +kernel
theorem dX12_tellObject_97 : decode cX12_tellObject 97 = .ok (.iaload, 1) := by decide +kernel
theorem dX12_tellObject_98 : decode cX12_tellObject 98 = .ok (.iaload, 1) := by decide +kernel
theorem dX12_tellObject_99 : decode cX12_tellObject 99 = .ok (.imul, 1) := by decide +kernel
theorem dX12_tellObject_100 : decode cX12_tellObject 100 = .ok (.invokevirtual 453, 3) := by decide +kernel
theorem dX12_tellObject_103 : decode cX12_tellObject 103 = .ok (.goto 123, 3) := by decide +kernel
theorem dX12_tellObject_106 : decode cX12_tellObject 106 = .ok (.aload_n 0, 1) := by decide +kernel
theorem dX12_tellObject_107 : decode cX12_tellObject 107 = .ok (.bipush 40, 2) := by decide +kernel
theorem dX12_tellObject_109 : decode cX12_tellObject 109 = .ok (.invokevirtual 447, 3) := by decide +kernel
theorem dX12_tellObject_112 : decode cX12_tellObject 112 = .ok (.aload_n 0, 1) := by decide +kernel
theorem dX12_tellObject_113 : decode cX12_tellObject 113 = .ok (.iconst 2, 1) := by decide +kernel
theorem dX12_tellObject_114 : decode cX12_tellObject 114 = .ok (.aload_n 0, 1) := by decide +kernel
theorem dX12_tellObject_115 : decode cX12_tellObject 115 = .ok (.getfield 14, 3) := by decide +kernel
theorem dX12_tellObject_118 : decode cX12_tellObject 118 = .ok (.iload_n 3, 1) := by decide +kernel
theorem dX12_tellObject_119 : decode cX12_tellObject 119 = .ok (.iaload, 1) := by decide +kernel
theorem dX12_tellObject_120 : decode cX12_tellObject 120 = .ok (.imul, 1) := by decide +kernel
theorem dX12_tellObject_121 : decode cX12_tellObject 121 = .ok (.iconst 1, 1) := by decide +kernel
theorem dX12_tellObject_122 : decode cX12_tellObject 122 = .ok (.iadd, 1) := by decide +kernel
theorem dX12_tellObject_123 : decode cX12_tellObject 123 = .ok (.invokevirtual 453, 3) := by decide +kernel
theorem dX12_tellObject_126 : decode cX12_tellObject 126 = .ok (.aload_n 0, 1) := by decide +kernel
theorem dX12_tellObject_127 : decode cX12_tellObject 127 = .ok (.iconst 2, 1) := by decide +kernel
theorem dX12_tellObject_128 : decode cX12_tellObject 128 = .ok (.aload_n 0, 1) := by decide +kernel
theorem dX12_tellObject_129 : decode cX12_tellObject 129 = .ok (.getfield 8, 3) := by decide +kernel
theorem dX12_tellObject_132 : decode cX12_tellObject 132 = .ok (.iload_n 3, 1) := by decide +kernel
theorem dX12_tellObject_133 : decode cX12_tellObject 133 = .ok (.iaload, 1) := by decide +kernel
theorem dX12_tellObject_134 : decode cX12_tellObject 134 = .ok (.imul, 1) := by decide +kernel
theorem dX12_tellObject_135 : decode cX12_tellObject 135 = .ok (.invokevirtual 453, 3) := by decide +kernel
theorem dX12_tellObject_138 : decode cX12_tellObject 138 = .ok (.goto 88, 3) := by decide +kernel
theorem dX12_tellObject_141 : decode cX12_tellObject 141 = .ok (.iload_n 3, 1) := by decide +kernel
theorem dX12_tellObject_142 : decode cX12_tellObject 142 = .ok (.ifCond .ne 12, 3) := by decide +kernel
theorem dX12_tellObject_145 : decode cX12_tellObject 145 = .ok (.aload_n 0, 1) := by decide +kernel
theorem dX12_tellObject_146 : decode cX12_tellObject 146 = .ok (.bipush 41, 2) := by decide +kernel
theorem dX12_tellObject_148 : decode cX12_tellObject 148 = .ok (.invokevirtual 447, 3) := by decide +kernel
theorem dX12_tellObject_151 : decode cX12_tellObject 151 = .ok (.goto 75, 3) := by decide +kernel
theorem dX12_tellObject_154 : decode cX12_tellObject 154 = .ok (.aload_n 0, 1) := by decide +kernel
theorem dX12_tellObject_155 : decode cX12_tellObject 155 = .ok (.iload_n 3, 1) := by decide +kernel
theorem dX12_tellObject_156 : decode cX12_tellObject 156 = .ok (.invokevirtual 365, 3) := by decide +kernel
theorem dX12_tellObject_159 : decode cX12_tellObject 159 = .ok (.ifCond .eq 38, 3) := by decide +kernel
theorem dX12_tellObject_162 : decode cX12_tellObject 162 = .ok (.aload_n 0, 1) := by decide +kernel
theorem dX12_tellObject_163 : decode cX12_tellObject 163 = .ok (.bipush 32, 2) := by decide +kernel
theorem dX12_tellObject_165 : decode cX12_tellObject 165 = .ok (.invokevirtual 447, 3) := by decide +kernel
theorem dX12_tellObject_168 : decode cX12_tellObject 168 = .ok (.aload_n 0, 1) := by decide +kernel
theorem dX12_tellObject_169 : decode cX12_tellObject 169 = .ok (.iconst 2, 1) := by decide +kernel
theorem dX12_tellObject_170 : decode cX12_tellObject 170 = .ok (.aload_n 0, 1) := by decide +kernel
theorem dX12_tellObject_171 : decode cX12_tellObject 171 = .ok (.getfield 14, 3) := by decide +kernel
theorem dX12_tellObject_174 : decode cX12_tellObject 174 = .ok (.iload_n 3, 1) := by decide +kernel
theorem dX12_tellObject_175 : decode cX12_tellObject 175 = .ok (.iaload, 1) := by decide +kernel
theorem dX12_tellObject_176 : decode cX12_tellObject 176 = .ok (.imul, 1) := by decide +kernel
theorem dX12_tellObject_177 : decode cX12_tellObject 177 = .ok (.iconst 1, 1) := by decide +kernel
theorem dX12_tellObject_178 : decode cX12_tellObject 178 = .ok (.iadd, 1) := by decide +kernel
theorem dX12_tellObject_179 : decode cX12_tellObject 179 = .ok (.invokevirtual 453, 3) := by decide +kernel
theorem dX12_tellObject_182 : decode cX12_tellObject 182 = .ok (.aload_n 0, 1) := by decide +kernel
theorem dX12_tellObject_183 : decode cX12_tellObject 183 = .ok (.iconst 2, 1) := by decide +kernel
theorem dX12_tellObject_184 : decode cX12_tellObject 184 = .ok (.aload_n 0, 1) := by decide +kernel
theorem dX12_tellObject_185 : decode cX12_tellObject 185 = .ok (.getfield 8, 3) := by decide +kernel
theorem dX12_tellObject_188 : decode cX12_tellObject 188 = .ok (.iload_n 3, 1) := by decide +kernel
theorem dX12_tellObject_189 : decode cX12_tellObject 189 = .ok (.iaload, 1) := by decide +kernel
theorem dX12_tellObject_190 : decode cX12_tellObject 190 = .ok (.imul, 1) := by decide +kernel
theorem dX12_tellObject_191 : decode cX12_tellObject 191 = .ok (.invokevirtual 453, 3) := by decide +kernel
theorem dX12_tellObject_194 : decode cX12_tellObject 194 = .ok (.goto 32, 3) := by decide +kernel
theorem dX12_tellObject_197 : decode cX12_tellObject 197 = .ok (.aload_n 0, 1) := by decide +kernel
theorem dX12_tellObject_198 : decode cX12_tellObject 198 = .ok (.bipush 32, 2) := by decide +kernel
theorem dX12_tellObject_200 : decode cX12_tellObject 200 = .ok (.invokevirtual 447, 3) := by decide +kernel
theorem dX12_tellObject_203 : decode cX12_tellObject 203 = .ok (.aload_n 0, 1) := by decide +kernel
theorem dX12_tellObject_204 : decode cX12_tellObject 204 = .ok (.bipush 46, 2) := by decide +kernel
theorem dX12_tellObject_206 : decode cX12_tellObject 206 = .ok (.invokevirtual 447, 3) := by decide +kernel
theorem dX12_tellObject_209 : decode cX12_tellObject 209 = .ok (.aload_n 0, 1) := by decide +kernel
theorem dX12_tellObject_210 : decode cX12_tellObject 210 = .ok (.bipush 32, 2) := by decide +kernel
theorem dX12_tellObject_212 : decode cX12_tellObject 212 = .ok (.invokevirtual 447, 3) := by decide +kernel
theorem dX12_tellObject_215 : decode cX12_tellObject 215 = .ok (.aload_n 0, 1) := by decide +kernel
theorem dX12_tellObject_216 : decode cX12_tellObject 216 = .ok (.iload_n 3, 1) := by decide +kernel
theorem dX12_tellObject_217 : decode cX12_tellObject 217 = .ok (.invokevirtual 459, 3) := by decide +kernel
theorem dX12_tellObject_220 : decode cX12_tellObject 220 = .ok (.aload_n 0, 1) := by decide +kernel
theorem dX12_tellObject_221 : decode cX12_tellObject 221 = .ok (.bipush 41, 2) := by decide +kernel
theorem dX12_tellObject_223 : decode cX12_tellObject 223 = .ok (.invokevirtual 447, 3) := by decide +kernel
theorem dX12_tellObject_226 : decode cX12_tellObject 226 = .ok (.goto (-214), 3) := by decide +kernel
theorem dX12_tellObject_229 : decode cX12_tellObject 229 = .ok (.return_, 1) := by decide +kernel

section
variable {p : Program} {l : Launch} {e : Env} {R : Room} {s : State} {m : MethodId} {args : Array Value} {below : List Frame} {meth : Method} {c : Code} {H : Heap} {locs : List Loc} {Qf : State → Prop}
variable {ls : Array Slot} {D : va_G} {ca : Nat → ClassId} {A : Nat → Prop} {h0 : Nat} {ad : Nat → Nat} {H0 : Heap} {u : iST}
def w_tellObject_12b (R12 : iST → Prop) (Q : iST → Prop) (u : iST) : Prop :=
  rd (u.1 20) (fun v3 => 
  br (v3 ≤ 0) (
    Q u) (
    w_isFull (fun v4 u => 
    br (v4 ≠ 0) (
      Q u) (
      rd (u.1 20) (fun v5 => 
      ov (v5 - 1) (
      sw (iI u 20 (v5 - 1)) (fun u => 
      rd (u.1 20) (fun v7 => 
      bd v7 4000 (rd (u.2.1 19 v7) (fun v8 => 
      (0 : Int) < 2 ∧ (
      (0 : Int) < 2 ∧ (
      br ((Int.tmod v8 2) ≠ 0) (
        br ((Int.tdiv v8 2) ≠ 0) (
          w_isPair (Int.tdiv v8 2) (fun v11 u => 
          br (v11 = 0) (
            w_tellLetter 32 (fun u => 
            w_tellLetter 46 (fun u => 
            w_tellLetter 32 (fun u => 
            w_tellAtom (Int.tdiv v8 2) (fun u => 
            w_tellLetter 41 (fun u => 
            R12 u) u) u) u) u) u) (
            w_tellLetter 32 (fun u => 
            bd (Int.tdiv v8 2) 452000 (rd (u.2.1 1 (Int.tdiv v8 2)) (fun v18 => 
            ov (2 * v18) (
            ov ((2 * v18) + 1) (
            w_later ((2 * v18) + 1) (fun u => 
            bd (Int.tdiv v8 2) 452000 (rd (u.2.1 0 (Int.tdiv v8 2)) (fun v22 => 
            ov (2 * v22) (
            w_later (2 * v22) (fun u => 
            R12 u) u)))) u))))) u)) u) (
          w_tellLetter 41 (fun u => 
          R12 u) u)) (
        w_isPair (Int.tdiv v8 2) (fun v26 u => 
        br (v26 ≠ 0) (
          w_isQuoted (Int.tdiv v8 2) (fun v27 u => 
          br (v27 = 0) (
            w_tellLetter 40 (fun u => 
            bd (Int.tdiv v8 2) 452000 (rd (u.2.1 1 (Int.tdiv v8 2)) (fun v29 => 
            ov (2 * v29) (
            ov ((2 * v29) + 1) (
            w_later ((2 * v29) + 1) (fun u => 
            bd (Int.tdiv v8 2) 452000 (rd (u.2.1 0 (Int.tdiv v8 2)) (fun v33 => 
            ov (2 * v33) (
            w_later (2 * v33) (fun u => 
            R12 u) u)))) u))))) u) (
            w_tellLetter 39 (fun u => 
            bd (Int.tdiv v8 2) 452000 (rd (u.2.1 1 (Int.tdiv v8 2)) (fun v37 => 
            bd v37 452000 (rd (u.2.1 0 v37) (fun v38 => 
            ov (2 * v38) (
            w_later (2 * v38) (fun u => 
            R12 u) u)))))) u)) u) (
          w_tellAtom (Int.tdiv v8 2) (fun u => 
          R12 u) u)) u))))))))))) u))
def w_tellObject_12 (Q : iST → Prop) (u : iST) : Prop := ∀ R12 : iST → Prop, (∀ (u : iST), w_tellObject_12b R12 Q u → R12 u) → R12 u
set_option maxRecDepth 20000 in
set_option maxHeartbeats 4000000 in
theorem b_tellObject_12 (X : kX p m c cX12_tellObject 4 s args D ca) (hRf : 2 ≤ R.frames) (hRl : 44 ≤ R.locals) {Q : iST → Prop} (hret : ∀ (u : iST) (H : Heap) (locs : List Loc) (ls : Array Slot) (pc : Nat), Q u → kW D ca A h0 ad H0 H locs u → decode cX12_tellObject pc = .ok (.return_, 1) → W p l e R s m args below meth c H locs 0 0 Qf (F0 m pc ls [])) (hw : kW D ca A h0 ad H0 H locs u) (hl : lv_has ls 4 [(0, .ref h0)]) (h : w_tellObject_12 Q u) : W p l e R s m args below meth c H locs 0 0 Qf (F0 m 12 ls []) := by
  refine h (fun u => ∀ (H : Heap) (locs : List Loc) (ls : Array Slot), kW D ca A h0 ad H0 H locs u → lv_has ls 4 [(0, .ref h0)] → W p l e R s m args below meth c H locs 0 0 Qf (F0 m 12 ls [])) ?_ H locs ls hw hl
  clear h hl hw
  intro u h H locs ls hw hl
  have hR12 : ∀ (u : iST) (H : Heap) (locs : List Loc) (ls : Array Slot), kW D ca A h0 ad H0 H locs u → lv_has ls 4 [(0, .ref h0)] → (fun u => ∀ (H : Heap) (locs : List Loc) (ls : Array Slot), kW D ca A h0 ad H0 H locs u → lv_has ls 4 [(0, .ref h0)] → W p l e R s m args below meth c H locs 0 0 Qf (F0 m 12 ls [])) u → W p l e R s m args below meth c H locs 0 0 Qf (F0 m 12 ls []) := fun u H locs ls hw hl h => h H locs ls hw hl
  have hx := X.1.1
  have hb := X.1.2.1
  unfold w_tellObject_12b at h
  refine lv_aload_n hx hb dX12_tellObject_12 rfl (lv_at hl 0 rfl) ?_
  refine gS 20 450 (by decide) L_20 (fun _ _ => mF_20) rfl X hw dX12_tellObject_13 h (fun v3 rv3 h => ?_)
  refine k_if_le hx hb rv3 dX12_tellObject_16 (tgt := 229) rfl h (fun h => ?_) (fun h => ?_)
  · exact hret _ _ _ _ _ h hw dX12_tellObject_229
  · refine lv_aload_n hx hb dX12_tellObject_19 rfl (lv_at hl 0 rfl) ?_
    refine kcI (n := 0) (c_isFull h) G_isFull E_isFull X hw (Nat.le_trans (Nat.le_of_ble_eq_true rfl) hRf) (Nat.le_trans (Nat.le_of_ble_eq_true rfl) hRl) rfl hl.1 (Nat.le_of_ble_eq_true rfl) rfl dX12_tellObject_20 (fun v4 u H locs rv4 h hw => ?_)
    refine k_if_ne hx hb rv4 dX12_tellObject_23 (tgt := 229) rfl h (fun h => ?_) (fun h => ?_)
    · exact hret _ _ _ _ _ h hw dX12_tellObject_229
    · refine lv_aload_n hx hb dX12_tellObject_26 rfl (lv_at hl 0 rfl) ?_
      refine lv_dup hx hb dX12_tellObject_27 rfl ?_
      refine gS 20 450 (by decide) L_20 (fun _ _ => mF_20) rfl X hw dX12_tellObject_28 h (fun v5 rv5 h => ?_)
      refine lv_iconst hx hb dX12_tellObject_31 (v := jI 1) rfl ?_
      refine k_isub hx hb dX12_tellObject_32 h (fun r6 h => ?_)
      refine pS 20 450 (by decide) L_20 rfl rfl rfl (fun _ _ _ _ _ => mSI_20) (by decide) X hw r6 dX12_tellObject_33 h (fun H locs u hw h => ?_)
      refine lv_aload_n hx hb dX12_tellObject_36 rfl (lv_at hl 0 rfl) ?_
      refine gA 19 53 (by decide) L_19 (fun _ _ => mF_19) rfl X hw dX12_tellObject_37 ?_
      refine lv_aload_n hx hb dX12_tellObject_40 rfl (lv_at hl 0 rfl) ?_
      refine gS 20 450 (by decide) L_20 (fun _ _ => mF_20) rfl X hw dX12_tellObject_41 h (fun v7 rv7 h => ?_)
      refine aL 19 14 13 4000 (fun _ _ _ _ => mG_19) (fun _ => rfl) X hw rv7 dX12_tellObject_44 rfl h (fun v8 rv8 h => ?_)
      refine lv_istore_n hx hb dX12_tellObject_45 rfl hl (by decide) rfl (fun ls hl => ?_)
      have hl : lv_has ls 4 [(2, .int (jI v8)), (0, .ref (h0))] := hl
      refine lv_iload_n hx hb dX12_tellObject_46 rfl (lv_at hl 0 rfl) ?_
      refine lv_iconst hx hb dX12_tellObject_47 (v := jI 2) rfl ?_
      refine k_idiv hx hb rv8 (by decide) dX12_tellObject_48 h (fun r9 h => ?_)
      refine lv_istore_n hx hb dX12_tellObject_49 rfl hl (by decide) rfl (fun ls hl => ?_)
      have hl : lv_has ls 4 [(3, .int (jI (Int.tdiv v8 2))), (2, .int (jI v8)), (0, .ref (h0))] := hl
      refine lv_iload_n hx hb dX12_tellObject_50 rfl (lv_at hl 1 rfl) ?_
      refine lv_iconst hx hb dX12_tellObject_51 (v := jI 2) rfl ?_
      refine k_irem hx hb rv8 (by decide) dX12_tellObject_52 h (fun r10 h => ?_)
      refine k_if_ne hx hb r10 dX12_tellObject_53 (tgt := 141) rfl h (fun h => ?_) (fun h => ?_)
      · refine lv_iload_n hx hb dX12_tellObject_141 rfl (lv_at hl 0 rfl) ?_
        refine k_if_ne hx hb r9 dX12_tellObject_142 (tgt := 154) rfl h (fun h => ?_) (fun h => ?_)
        · refine lv_aload_n hx hb dX12_tellObject_154 rfl (lv_at hl 2 rfl) ?_
          refine lv_iload_n hx hb dX12_tellObject_155 rfl (lv_at hl 0 rfl) ?_
          refine kcI (n := 1) (c_isPair r9 h) G_isPair E_isPair X hw (Nat.le_trans (Nat.le_of_ble_eq_true rfl) hRf) (Nat.le_trans (Nat.le_of_ble_eq_true rfl) hRl) rfl hl.1 (Nat.le_of_ble_eq_true rfl) rfl dX12_tellObject_156 (fun v11 u H locs rv11 h hw => ?_)
          refine k_if_eq hx hb rv11 dX12_tellObject_159 (tgt := 197) rfl h (fun h => ?_) (fun h => ?_)
          · refine lv_aload_n hx hb dX12_tellObject_197 rfl (lv_at hl 2 rfl) ?_
            refine lv_bipush hx hb dX12_tellObject_198 (v := jI 32) rfl ?_
            refine kcV (n := 1) (c_tellLetter (by decide) h) G_tellLetter E_tellLetter X hw (Nat.le_trans (Nat.le_of_ble_eq_true rfl) hRf) (Nat.le_trans (Nat.le_of_ble_eq_true rfl) hRl) rfl hl.1 (Nat.le_of_ble_eq_true rfl) rfl dX12_tellObject_200 (fun u H locs h hw => ?_)
            refine lv_aload_n hx hb dX12_tellObject_203 rfl (lv_at hl 2 rfl) ?_
            refine lv_bipush hx hb dX12_tellObject_204 (v := jI 46) rfl ?_
            refine kcV (n := 1) (c_tellLetter (by decide) h) G_tellLetter E_tellLetter X hw (Nat.le_trans (Nat.le_of_ble_eq_true rfl) hRf) (Nat.le_trans (Nat.le_of_ble_eq_true rfl) hRl) rfl hl.1 (Nat.le_of_ble_eq_true rfl) rfl dX12_tellObject_206 (fun u H locs h hw => ?_)
            refine lv_aload_n hx hb dX12_tellObject_209 rfl (lv_at hl 2 rfl) ?_
            refine lv_bipush hx hb dX12_tellObject_210 (v := jI 32) rfl ?_
            refine kcV (n := 1) (c_tellLetter (by decide) h) G_tellLetter E_tellLetter X hw (Nat.le_trans (Nat.le_of_ble_eq_true rfl) hRf) (Nat.le_trans (Nat.le_of_ble_eq_true rfl) hRl) rfl hl.1 (Nat.le_of_ble_eq_true rfl) rfl dX12_tellObject_212 (fun u H locs h hw => ?_)
            refine lv_aload_n hx hb dX12_tellObject_215 rfl (lv_at hl 2 rfl) ?_
            refine lv_iload_n hx hb dX12_tellObject_216 rfl (lv_at hl 0 rfl) ?_
            refine kcV (n := 1) (c_tellAtom r9 h) G_tellAtom E_tellAtom X hw (Nat.le_trans (Nat.le_of_ble_eq_true rfl) hRf) (Nat.le_trans (Nat.le_of_ble_eq_true rfl) hRl) rfl hl.1 (Nat.le_of_ble_eq_true rfl) rfl dX12_tellObject_217 (fun u H locs h hw => ?_)
            refine lv_aload_n hx hb dX12_tellObject_220 rfl (lv_at hl 2 rfl) ?_
            refine lv_bipush hx hb dX12_tellObject_221 (v := jI 41) rfl ?_
            refine kcV (n := 1) (c_tellLetter (by decide) h) G_tellLetter E_tellLetter X hw (Nat.le_trans (Nat.le_of_ble_eq_true rfl) hRf) (Nat.le_trans (Nat.le_of_ble_eq_true rfl) hRl) rfl hl.1 (Nat.le_of_ble_eq_true rfl) rfl dX12_tellObject_223 (fun u H locs h hw => ?_)
            refine lv_goto hx hb dX12_tellObject_226 (tgt := 12) rfl ?_
            exact hR12 _ H locs ls hw (lv_sub hl [2] rfl) h
          · refine lv_aload_n hx hb dX12_tellObject_162 rfl (lv_at hl 2 rfl) ?_
            refine lv_bipush hx hb dX12_tellObject_163 (v := jI 32) rfl ?_
            refine kcV (n := 1) (c_tellLetter (by decide) h) G_tellLetter E_tellLetter X hw (Nat.le_trans (Nat.le_of_ble_eq_true rfl) hRf) (Nat.le_trans (Nat.le_of_ble_eq_true rfl) hRl) rfl hl.1 (Nat.le_of_ble_eq_true rfl) rfl dX12_tellObject_165 (fun u H locs h hw => ?_)
            refine lv_aload_n hx hb dX12_tellObject_168 rfl (lv_at hl 2 rfl) ?_
            refine lv_iconst hx hb dX12_tellObject_169 (v := jI 2) rfl ?_
            refine lv_aload_n hx hb dX12_tellObject_170 rfl (lv_at hl 2 rfl) ?_
            refine gA 1 14 (by decide) L_1 (fun _ _ => mF_1) rfl X hw dX12_tellObject_171 ?_
            refine lv_iload_n hx hb dX12_tellObject_174 rfl (lv_at hl 0 rfl) ?_
            refine aL 1 2 1 452000 (fun _ _ _ _ => mG_1) (fun _ => rfl) X hw r9 dX12_tellObject_175 rfl h (fun v18 rv18 h => ?_)
            refine k_imul hx hb dX12_tellObject_176 h (fun r19 h => ?_)
            refine lv_iconst hx hb dX12_tellObject_177 (v := jI 1) rfl ?_
            refine k_iadd hx hb dX12_tellObject_178 h (fun r20 h => ?_)
            refine kcV (n := 1) (c_later r20 h) G_later E_later X hw (Nat.le_trans (Nat.le_of_ble_eq_true rfl) hRf) (Nat.le_trans (Nat.le_of_ble_eq_true rfl) hRl) rfl hl.1 (Nat.le_of_ble_eq_true rfl) rfl dX12_tellObject_179 (fun u H locs h hw => ?_)
            refine lv_aload_n hx hb dX12_tellObject_182 rfl (lv_at hl 2 rfl) ?_
            refine lv_iconst hx hb dX12_tellObject_183 (v := jI 2) rfl ?_
            refine lv_aload_n hx hb dX12_tellObject_184 rfl (lv_at hl 2 rfl) ?_
            refine gA 0 8 (by decide) L_0 (fun _ _ => mF_0) rfl X hw dX12_tellObject_185 ?_
            refine lv_iload_n hx hb dX12_tellObject_188 rfl (lv_at hl 0 rfl) ?_
            refine aL 0 1 0 452000 (fun _ _ _ _ => mG_0) (fun _ => rfl) X hw r9 dX12_tellObject_189 rfl h (fun v22 rv22 h => ?_)
            refine k_imul hx hb dX12_tellObject_190 h (fun r23 h => ?_)
            refine kcV (n := 1) (c_later r23 h) G_later E_later X hw (Nat.le_trans (Nat.le_of_ble_eq_true rfl) hRf) (Nat.le_trans (Nat.le_of_ble_eq_true rfl) hRl) rfl hl.1 (Nat.le_of_ble_eq_true rfl) rfl dX12_tellObject_191 (fun u H locs h hw => ?_)
            refine lv_goto hx hb dX12_tellObject_194 (tgt := 226) rfl ?_
            refine lv_goto hx hb dX12_tellObject_226 (tgt := 12) rfl ?_
            exact hR12 _ H locs ls hw (lv_sub hl [2] rfl) h
        · refine lv_aload_n hx hb dX12_tellObject_145 rfl (lv_at hl 2 rfl) ?_
          refine lv_bipush hx hb dX12_tellObject_146 (v := jI 41) rfl ?_
          refine kcV (n := 1) (c_tellLetter (by decide) h) G_tellLetter E_tellLetter X hw (Nat.le_trans (Nat.le_of_ble_eq_true rfl) hRf) (Nat.le_trans (Nat.le_of_ble_eq_true rfl) hRl) rfl hl.1 (Nat.le_of_ble_eq_true rfl) rfl dX12_tellObject_148 (fun u H locs h hw => ?_)
          refine lv_goto hx hb dX12_tellObject_151 (tgt := 226) rfl ?_
          refine lv_goto hx hb dX12_tellObject_226 (tgt := 12) rfl ?_
          exact hR12 _ H locs ls hw (lv_sub hl [2] rfl) h
      · refine lv_aload_n hx hb dX12_tellObject_56 rfl (lv_at hl 2 rfl) ?_
        refine lv_iload_n hx hb dX12_tellObject_57 rfl (lv_at hl 0 rfl) ?_
        refine kcI (n := 1) (c_isPair r9 h) G_isPair E_isPair X hw (Nat.le_trans (Nat.le_of_ble_eq_true rfl) hRf) (Nat.le_trans (Nat.le_of_ble_eq_true rfl) hRl) rfl hl.1 (Nat.le_of_ble_eq_true rfl) rfl dX12_tellObject_58 (fun v26 u H locs rv26 h hw => ?_)
        refine k_if_ne hx hb rv26 dX12_tellObject_61 (tgt := 72) rfl h (fun h => ?_) (fun h => ?_)
        · refine lv_aload_n hx hb dX12_tellObject_72 rfl (lv_at hl 2 rfl) ?_
          refine lv_iload_n hx hb dX12_tellObject_73 rfl (lv_at hl 0 rfl) ?_
          refine kcI (n := 1) (c_isQuoted r9 h) G_isQuoted E_isQuoted X hw (Nat.le_trans (Nat.le_of_ble_eq_true rfl) hRf) (Nat.le_trans (Nat.le_of_ble_eq_true rfl) hRl) rfl hl.1 (Nat.le_of_ble_eq_true rfl) rfl dX12_tellObject_74 (fun v27 u H locs rv27 h hw => ?_)
          refine k_if_eq hx hb rv27 dX12_tellObject_77 (tgt := 106) rfl h (fun h => ?_) (fun h => ?_)
          · refine lv_aload_n hx hb dX12_tellObject_106 rfl (lv_at hl 2 rfl) ?_
            refine lv_bipush hx hb dX12_tellObject_107 (v := jI 40) rfl ?_
            refine kcV (n := 1) (c_tellLetter (by decide) h) G_tellLetter E_tellLetter X hw (Nat.le_trans (Nat.le_of_ble_eq_true rfl) hRf) (Nat.le_trans (Nat.le_of_ble_eq_true rfl) hRl) rfl hl.1 (Nat.le_of_ble_eq_true rfl) rfl dX12_tellObject_109 (fun u H locs h hw => ?_)
            refine lv_aload_n hx hb dX12_tellObject_112 rfl (lv_at hl 2 rfl) ?_
            refine lv_iconst hx hb dX12_tellObject_113 (v := jI 2) rfl ?_
            refine lv_aload_n hx hb dX12_tellObject_114 rfl (lv_at hl 2 rfl) ?_
            refine gA 1 14 (by decide) L_1 (fun _ _ => mF_1) rfl X hw dX12_tellObject_115 ?_
            refine lv_iload_n hx hb dX12_tellObject_118 rfl (lv_at hl 0 rfl) ?_
            refine aL 1 2 1 452000 (fun _ _ _ _ => mG_1) (fun _ => rfl) X hw r9 dX12_tellObject_119 rfl h (fun v29 rv29 h => ?_)
            refine k_imul hx hb dX12_tellObject_120 h (fun r30 h => ?_)
            refine lv_iconst hx hb dX12_tellObject_121 (v := jI 1) rfl ?_
            refine k_iadd hx hb dX12_tellObject_122 h (fun r31 h => ?_)
            refine kcV (n := 1) (c_later r31 h) G_later E_later X hw (Nat.le_trans (Nat.le_of_ble_eq_true rfl) hRf) (Nat.le_trans (Nat.le_of_ble_eq_true rfl) hRl) rfl hl.1 (Nat.le_of_ble_eq_true rfl) rfl dX12_tellObject_123 (fun u H locs h hw => ?_)
            refine lv_aload_n hx hb dX12_tellObject_126 rfl (lv_at hl 2 rfl) ?_
            refine lv_iconst hx hb dX12_tellObject_127 (v := jI 2) rfl ?_
            refine lv_aload_n hx hb dX12_tellObject_128 rfl (lv_at hl 2 rfl) ?_
            refine gA 0 8 (by decide) L_0 (fun _ _ => mF_0) rfl X hw dX12_tellObject_129 ?_
            refine lv_iload_n hx hb dX12_tellObject_132 rfl (lv_at hl 0 rfl) ?_
            refine aL 0 1 0 452000 (fun _ _ _ _ => mG_0) (fun _ => rfl) X hw r9 dX12_tellObject_133 rfl h (fun v33 rv33 h => ?_)
            refine k_imul hx hb dX12_tellObject_134 h (fun r34 h => ?_)
            refine kcV (n := 1) (c_later r34 h) G_later E_later X hw (Nat.le_trans (Nat.le_of_ble_eq_true rfl) hRf) (Nat.le_trans (Nat.le_of_ble_eq_true rfl) hRl) rfl hl.1 (Nat.le_of_ble_eq_true rfl) rfl dX12_tellObject_135 (fun u H locs h hw => ?_)
            refine lv_goto hx hb dX12_tellObject_138 (tgt := 226) rfl ?_
            refine lv_goto hx hb dX12_tellObject_226 (tgt := 12) rfl ?_
            exact hR12 _ H locs ls hw (lv_sub hl [2] rfl) h
          · refine lv_aload_n hx hb dX12_tellObject_80 rfl (lv_at hl 2 rfl) ?_
            refine lv_bipush hx hb dX12_tellObject_81 (v := jI 39) rfl ?_
            refine kcV (n := 1) (c_tellLetter (by decide) h) G_tellLetter E_tellLetter X hw (Nat.le_trans (Nat.le_of_ble_eq_true rfl) hRf) (Nat.le_trans (Nat.le_of_ble_eq_true rfl) hRl) rfl hl.1 (Nat.le_of_ble_eq_true rfl) rfl dX12_tellObject_83 (fun u H locs h hw => ?_)
            refine lv_aload_n hx hb dX12_tellObject_86 rfl (lv_at hl 2 rfl) ?_
            refine lv_iconst hx hb dX12_tellObject_87 (v := jI 2) rfl ?_
            refine lv_aload_n hx hb dX12_tellObject_88 rfl (lv_at hl 2 rfl) ?_
            refine gA 0 8 (by decide) L_0 (fun _ _ => mF_0) rfl X hw dX12_tellObject_89 ?_
            refine lv_aload_n hx hb dX12_tellObject_92 rfl (lv_at hl 2 rfl) ?_
            refine gA 1 14 (by decide) L_1 (fun _ _ => mF_1) rfl X hw dX12_tellObject_93 ?_
            refine lv_iload_n hx hb dX12_tellObject_96 rfl (lv_at hl 0 rfl) ?_
            refine aL 1 2 1 452000 (fun _ _ _ _ => mG_1) (fun _ => rfl) X hw r9 dX12_tellObject_97 rfl h (fun v37 rv37 h => ?_)
            refine aL 0 1 0 452000 (fun _ _ _ _ => mG_0) (fun _ => rfl) X hw rv37 dX12_tellObject_98 rfl h (fun v38 rv38 h => ?_)
            refine k_imul hx hb dX12_tellObject_99 h (fun r39 h => ?_)
            refine kcV (n := 1) (c_later r39 h) G_later E_later X hw (Nat.le_trans (Nat.le_of_ble_eq_true rfl) hRf) (Nat.le_trans (Nat.le_of_ble_eq_true rfl) hRl) rfl hl.1 (Nat.le_of_ble_eq_true rfl) rfl dX12_tellObject_100 (fun u H locs h hw => ?_)
            refine lv_goto hx hb dX12_tellObject_103 (tgt := 226) rfl ?_
            refine lv_goto hx hb dX12_tellObject_226 (tgt := 12) rfl ?_
            exact hR12 _ H locs ls hw (lv_sub hl [2] rfl) h
        · refine lv_aload_n hx hb dX12_tellObject_64 rfl (lv_at hl 2 rfl) ?_
          refine lv_iload_n hx hb dX12_tellObject_65 rfl (lv_at hl 0 rfl) ?_
          refine kcV (n := 1) (c_tellAtom r9 h) G_tellAtom E_tellAtom X hw (Nat.le_trans (Nat.le_of_ble_eq_true rfl) hRf) (Nat.le_trans (Nat.le_of_ble_eq_true rfl) hRl) rfl hl.1 (Nat.le_of_ble_eq_true rfl) rfl dX12_tellObject_66 (fun u H locs h hw => ?_)
          refine lv_goto hx hb dX12_tellObject_69 (tgt := 226) rfl ?_
          refine lv_goto hx hb dX12_tellObject_226 (tgt := 12) rfl ?_
          exact hR12 _ H locs ls hw (lv_sub hl [2] rfl) h

def w_tellObject (a0 : Int) (Q : iST → Prop) (u : iST) : Prop :=
  sw (iI u 20 0) (fun u => 
  ov (2 * a0) (
  w_later (2 * a0) (fun u => 
  w_tellObject_12 Q u) u))
set_option maxRecDepth 20000 in
set_option maxHeartbeats 4000000 in
theorem b_tellObject_s (X : kX p m c cX12_tellObject 4 s args D ca) (hRf : 2 ≤ R.frames) (hRl : 44 ≤ R.locals) {Q : iST → Prop} (hret : ∀ (u : iST) (H : Heap) (locs : List Loc) (ls : Array Slot) (pc : Nat), Q u → kW D ca A h0 ad H0 H locs u → decode cX12_tellObject pc = .ok (.return_, 1) → W p l e R s m args below meth c H locs 0 0 Qf (F0 m pc ls [])) {a0 : Int} (ra0 : inR a0) (hw : kW D ca A h0 ad H0 H locs u) (hl : lv_has ls 4 [(0, .ref h0), (1, .int (jI a0))]) (h : w_tellObject a0 Q u) : W p l e R s m args below meth c H locs 0 0 Qf (F0 m 0 ls []) := by
  have hx := X.1.1
  have hb := X.1.2.1
  unfold w_tellObject at h
  refine lv_aload_n hx hb dX12_tellObject_0 rfl (lv_at hl 0 rfl) ?_
  refine lv_iconst hx hb dX12_tellObject_1 (v := jI 0) rfl ?_
  refine pS 20 450 (by decide) L_20 rfl rfl rfl (fun _ _ _ _ _ => mSI_20) (by decide) X hw (by decide) dX12_tellObject_2 h (fun H locs u hw h => ?_)
  refine lv_aload_n hx hb dX12_tellObject_5 rfl (lv_at hl 0 rfl) ?_
  refine lv_iconst hx hb dX12_tellObject_6 (v := jI 2) rfl ?_
  refine lv_iload_n hx hb dX12_tellObject_7 rfl (lv_at hl 1 rfl) ?_
  refine k_imul hx hb dX12_tellObject_8 h (fun r1 h => ?_)
  refine kcV (n := 1) (c_later r1 h) G_later E_later X hw (Nat.le_trans (Nat.le_of_ble_eq_true rfl) hRf) (Nat.le_trans (Nat.le_of_ble_eq_true rfl) hRl) rfl hl.1 (Nat.le_of_ble_eq_true rfl) rfl dX12_tellObject_9 (fun u H locs h hw => ?_)
  exact b_tellObject_12 X hRf hRl hret hw (lv_sub hl [0] rfl) h

end
theorem c_tellObject {l : Launch} {a0 : Int} (ra0 : inR a0) {Q : iST → Prop} {u : iST} (h : w_tellObject a0 Q u) : kMV l yX12_tellObject (.code yX12_tellObject cX12_tellObject 4 none :: wsM) { frames := 2, cells := 0, slots := 0, locals := 44 } [.int (jI a0)] Q u := kMV_of rfl (fun _ => Nat.le_of_ble_eq_true rfl) (fun X hRf hRl hret hw hl => b_tellObject_s X hRf hRl hret ra0 hw hl h)
