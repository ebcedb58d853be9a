/-! ProofHouse.isAsTold -/
theorem dX11_isAsTold_0 : decode cX11_isAsTold 0 = .ok (.aload_n 0, 1) := by decide +kernel
theorem dX11_isAsTold_1 : decode cX11_isAsTold 1 = .ok (.getfield 14, 3) := by decide +kernel
theorem dX11_isAsTold_4 : decode cX11_isAsTold 4 = .ok (.iload_n 1, 1) := by decide +kernel
theorem dX11_isAsTold_5 : decode cX11_isAsTold 5 = .ok (.invokevirtual 278, 3) := by decide +kernel
theorem dX11_isAsTold_8 : decode cX11_isAsTold 8 = .ok (.istore_n 2, 1) := by decide +kernel
theorem dX11_isAsTold_9 : decode cX11_isAsTold 9 = .ok (.iload_n 2, 1) := by decide +kernel
theorem dX11_isAsTold_10 : decode cX11_isAsTold 10 = .ok (.iconst 1, 1) := by decide +kernel
theorem dX11_isAsTold_11 : decode cX11_isAsTold 11 = .ok (.if_icmp .ge 7, 3) := by decide +kernel
theorem dX11_isAsTold_14 : decode cX11_isAsTold 14 = .ok (.iconst (-1), 1) := by decide +kernel
theorem dX11_isAsTold_15 : decode cX11_isAsTold 15 = .ok (.goto 11, 3) := by decide +kernel
theorem dX11_isAsTold_18 : decode cX11_isAsTold 18 = .ok (.aload_n 0, 1) := by decide +kernel
theorem dX11_isAsTold_19 : decode cX11_isAsTold 19 = .ok (.getfield 14, 3) := by decide +kernel
theorem dX11_isAsTold_22 : decode cX11_isAsTold 22 = .ok (.iload_n 1, 1) := by decide +kernel
theorem dX11_isAsTold_23 : decode cX11_isAsTold 23 = .ok (.invokevirtual 170, 3) := by decide +kernel
theorem dX11_isAsTold_26 : decode cX11_isAsTold 26 = .ok (.tableswitch 298 17 25 #[50, 85, 105, 226, 144, 198, 268, 268, 287], 50) := by decide +kernel
theorem dX11_isAsTold_76 : decode cX11_isAsTold 76 = .ok (.iload_n 2, 1) := by decide +kernel
theorem dX11_isAsTold_77 : decode cX11_isAsTold 77 = .ok (.iconst 2, 1) := by decide +kernel
theorem dX11_isAsTold_78 : decode cX11_isAsTold 78 = .ok (.if_icmp .ne 31, 3) := by decide +kernel
theorem dX11_isAsTold_81 : decode cX11_isAsTold 81 = .ok (.aload_n 0, 1) := by decide +kernel
theorem dX11_isAsTold_82 : decode cX11_isAsTold 82 = .ok (.iload_n 1, 1) := by decide +kernel
theorem dX11_isAsTold_83 : decode cX11_isAsTold 83 = .ok (.iconst 1, 1) := by decide +kernel
theorem dX11_isAsTold_84 : decode cX11_isAsTold 84 = .ok (.invokevirtual 281, 3) := by decide +kernel
theorem dX11_isAsTold_87 : decode cX11_isAsTold 87 = .ok (.ifCond .eq 22, 3) := by decide +kernel
theorem dX11_isAsTold_90 : decode cX11_isAsTold 90 = .ok (.aload_n 0, 1) := by decide +kernel
theorem dX11_isAsTold_91 : decode cX11_isAsTold 91 = .ok (.getfield 54, 3) := by decide +kernel
theorem dX11_isAsTold_94 : decode cX11_isAsTold 94 = .ok (.aload_n 0, 1) := by decide +kernel
theorem dX11_isAsTold_95 : decode cX11_isAsTold 95 = .ok (.getfield 118, 3) := by decide +kernel
theorem dX11_isAsTold_98 : decode cX11_isAsTold 98 = .ok (.iconst 0, 1) := by decide +kernel
theorem dX11_isAsTold_99 : decode cX11_isAsTold 99 = .ok (.invokevirtual 285, 3) := by decide +kernel
theorem dX11_isAsTold_102 : decode cX11_isAsTold 102 = .ok (.ifCond .eq 7, 3) := by decide +kernel
theorem dX11_isAsTold_105 : decode cX11_isAsTold 105 = .ok (.iconst 1, 1) := by decide +kernel
theorem dX11_isAsTold_106 : decode cX11_isAsTold 106 = .ok (.goto 4, 3) := by decide +kernel
theorem dX11_isAsTold_109 : decode cX11_isAsTold 109 = .ok (.iconst 0, 1) := by decide +kernel
theorem dX11_isAsTold_110 : decode cX11_isAsTold 110 = .ok (.ireturn, 1) := by decide +kernel
theorem dX11_isAsTold_111 : decode cX11_isAsTold 111 = .ok (.iload_n 2, 1) := by decide +kernel
theorem dX11_isAsTold_112 : decode cX11_isAsTold 112 = .ok (.iconst 2, 1) := by decide +kernel
theorem dX11_isAsTold_113 : decode cX11_isAsTold 113 = .ok (.if_icmp .ne 16, 3) := by decide +kernel
theorem dX11_isAsTold_116 : decode cX11_isAsTold 116 = .ok (.aload_n 0, 1) := by decide +kernel
theorem dX11_isAsTold_117 : decode cX11_isAsTold 117 = .ok (.iload_n 1, 1) := by decide +kernel
theorem dX11_isAsTold_118 : decode cX11_isAsTold 118 = .ok (.iconst 1, 1) := by decide +kernel
theorem dX11_isAsTold_119 : decode cX11_isAsTold 119 = .ok (.invokevirtual 281, 3) := by decide +kernel
theorem dX11_isAsTold_122 : decode cX11_isAsTold 122 = .ok (.ifCond .eq 7, 3) := by decide +kernel
theorem dX11_isAsTold_125 : decode cX11_isAsTold 125 = .ok (.iconst 1, 1) := by decide +kernel
theorem dX11_isAsTold_126 : decode cX11_isAsTold 126 = .ok (.goto 4, 3) := by decide +kernel
theorem dX11_isAsTold_129 : decode cX11_isAsTold 129 = .ok (.iconst 0, 1) := by decide +kernel
theorem dX11_isAsTold_130 : decode cX11_isAsTold 130 = .ok (.ireturn, 1) := by decide +kernel
theorem dX11_isAsTold_131 : decode cX11_isAsTold 131 = .ok (.aload_n 0, 1) := by decide +kernel
theorem dX11_isAsTold_132 : decode cX11_isAsTold 132 = .ok (.aload_n 0, 1) := by decide +kernel
theorem dX11_isAsTold_133 : decode cX11_isAsTold 133 = .ok (.getfield 14, 3) := by decide +kernel
theorem dX11_isAsTold_136 : decode cX11_isAsTold 136 = .ok (.aload_n 0, 1) := by decide +kernel
theorem dX11_isAsTold_137 : decode cX11_isAsTold 137 = .ok (.getfield 14, 3) := by decide +kernel
theorem dX11_isAsTold_140 : decode cX11_isAsTold 140 = .ok (.iload_n 1, 1) := by decide +kernel
theorem dX11_isAsTold_141 : decode cX11_isAsTold 141 = .ok (.invokevirtual 288, 3) := by decide +kernel
theorem dX11_isAsTold_144 : decode cX11_isAsTold 144 = .ok (.invokevirtual 288, 3) := by decide +kernel
theorem dX11_isAsTold_147 : decode cX11_isAsTold 147 = .ok (.putfield 124, 3) := by decide +kernel
theorem dX11_isAsTold_150 : decode cX11_isAsTold 150 = .ok (.iload_n 2, 1) := by decide +kernel
theorem dX11_isAsTold_151 : decode cX11_isAsTold 151 = .ok (.iconst 2, 1) := by decide +kernel
theorem dX11_isAsTold_152 : decode cX11_isAsTold 152 = .ok (.if_icmp .lt 16, 3) := by decide +kernel
theorem dX11_isAsTold_155 : decode cX11_isAsTold 155 = .ok (.aload_n 0, 1) := by decide +kernel
theorem dX11_isAsTold_156 : decode cX11_isAsTold 156 = .ok (.iload_n 1, 1) := by decide +kernel
theorem dX11_isAsTold_157 : decode cX11_isAsTold 157 = .ok (.iconst 1, 1) := by decide +kernel
theorem dX11_isAsTold_158 : decode cX11_isAsTold 158 = .ok (.invokevirtual 281, 3) := by decide +kernel
theorem dX11_isAsTold_161 : decode cX11_isAsTold 161 = .ok (.ifCond .eq 7, 3) := by decide +kernel
theorem dX11_isAsTold_164 : decode cX11_isAsTold 164 = .ok (.iconst 1, 1) := by decide +kernel
theorem dX11_isAsTold_165 : decode cX11_isAsTold 165 = .ok (.goto 4, 3) := by decide +kernel
theorem dX11_isAsTold_168 : decode cX11_isAsTold 168 = .ok (.iconst 0, 1) := by decide +kernel
theorem dX11_isAsTold_169 : decode cX11_isAsTold 169 = .ok (.ireturn, 1) := by decide +kernel
theorem dX11_isAsTold_170 : decode cX11_isAsTold 170 = .ok (.aload_n 0, 1) := by decide +kernel
theorem dX11_isAsTold_171 : decode cX11_isAsTold 171 = .ok (.aload_n 0, 1) := by decide +kernel
theorem dX11_isAsTold_172 : decode cX11_isAsTold 172 = .ok (.getfield 14, 3) := by decide +kernel
theorem dX11_isAsTold_175 : decode cX11_isAsTold 175 = .ok (.aload_n 0, 1) := by decide +kernel
theorem dX11_isAsTold_176 : decode cX11_isAsTold 176 = .ok (.getfield 14, 3) := by decide +kernel
theorem dX11_isAsTold_179 : decode cX11_isAsTold 179 = .ok (.aload_n 0, 1) := by decide +kernel
theorem dX11_isAsTold_180 : decode cX11_isAsTold 180 = .ok (.getfield 14, 3) := by decide +kernel
theorem dX11_isAsTold_183 : decode cX11_isAsTold 183 = .ok (.iload_n 1, 1) := by decide +kernel
theorem dX11_isAsTold_184 : decode cX11_isAsTold 184 = .ok (.invokevirtual 288, 3) := by decide +kernel
theorem dX11_isAsTold_187 : decode cX11_isAsTold 187 = .ok (.invokevirtual 288, 3) := by decide +kernel
theorem dX11_isAsTold_190 : decode cX11_isAsTold 190 = .ok (.invokevirtual 288, 3) := by decide +kernel
theorem dX11_isAsTold_193 : decode cX11_isAsTold 193 = .ok (.putfield 124, 3) := by decide +kernel
theorem dX11_isAsTold_196 : decode cX11_isAsTold 196 = .ok (.iload_n 2, 1) := by decide +kernel
theorem dX11_isAsTold_197 : decode cX11_isAsTold 197 = .ok (.iconst 3, 1) := by decide +kernel
theorem dX11_isAsTold_198 : decode cX11_isAsTold 198 = .ok (.if_icmp .lt 24, 3) := by decide +kernel
theorem dX11_isAsTold_201 : decode cX11_isAsTold 201 = .ok (.aload_n 0, 1) := by decide +kernel
theorem dX11_isAsTold_202 : decode cX11_isAsTold 202 = .ok (.iload_n 1, 1) := by decide +kernel
theorem dX11_isAsTold_203 : decode cX11_isAsTold 203 = .ok (.invokevirtual 291, 3) := by decide +kernel
theorem dX11_isAsTold_206 : decode cX11_isAsTold 206 = .ok (.ifCond .eq 16, 3) := by decide +kernel
theorem dX11_isAsTold_209 : decode cX11_isAsTold 209 = .ok (.aload_n 0, 1) := by decide +kernel
theorem dX11_isAsTold_210 : decode cX11_isAsTold 210 = .ok (.iload_n 1, 1) := by decide +kernel
theorem dX11_isAsTold_211 : decode cX11_isAsTold 211 = .ok (.iconst 2, 1) := by decide +kernel
theorem dX11_isAsTold_212 : decode cX11_isAsTold 212 = .ok (.invokevirtual 281, 3) := by decide +kernel
theorem dX11_isAsTold_215 : decode cX11_isAsTold 215 = .ok (.ifCond .eq 7, 3) := by decide +kernel
theorem dX11_isAsTold_218 : decode cX11_isAsTold 218 = .ok (.iconst 1, 1) := by decide +kernel
theorem dX11_isAsTold_219 : decode cX11_isAsTold 219 = .ok (.goto 4, 3) := by decide +kernel
theorem dX11_isAsTold_222 : decode cX11_isAsTold 222 = .ok (.iconst 0, 1) := by decide +kernel
theorem dX11_isAsTold_223 : decode cX11_isAsTold 223 = .ok (.ireturn, 1) := by decide +kernel
theorem dX11_isAsTold_224 : decode cX11_isAsTold 224 = .ok (.iload_n 2, 1) := by decide +kernel
theorem dX11_isAsTold_225 : decode cX11_isAsTold 225 = .ok (.iconst 4, 1) := by decide +kernel
theorem dX11_isAsTold_226 : decode cX11_isAsTold 226 = .ok (.if_icmp .ne 24, 3) := by decide +kernel
theorem dX11_isAsTold_229 : decode cX11_isAsTold 229 = .ok (.aload_n 0, 1) := by decide +kernel
theorem dX11_isAsTold_230 : decode cX11_isAsTold 230 = .ok (.iload_n 1, 1) := by decide +kernel
theorem dX11_isAsTold_231 : decode cX11_isAsTold 231 = .ok (.invokevirtual 291, 3) := by decide +kernel
theorem dX11_isAsTold_234 : decode cX11_isAsTold 234 = .ok (.ifCond .eq 16, 3) := by decide +kernel
theorem dX11_isAsTold_237 : decode cX11_isAsTold 237 = .ok (.aload_n 0, 1) := by decide +kernel
theorem dX11_isAsTold_238 : decode cX11_isAsTold 238 = .ok (.iload_n 1, 1) := by decide +kernel
theorem dX11_isAsTold_239 : decode cX11_isAsTold 239 = .ok (.iconst 2, 1) := by decide +kernel
theorem dX11_isAsTold_240 : decode cX11_isAsTold 240 = .ok (.invokevirtual 281, 3) := by decide +kernel
theorem dX11_isAsTold_243 : decode cX11_isAsTold 243 = .ok (.ifCond .eq 7, 3) := by decide +kernel
theorem dX11_isAsTold_246 : decode cX11_isAsTold 246 = .ok (.iconst 1, 1) := by decide +kernel
theorem dX11_isAsTold_247 : decode cX11_isAsTold 247 = .ok (.goto 4, 3) := by decide +kernel
theorem dX11_isAsTold_250 : decode cX11_isAsTold 250 = .ok (.iconst 0, 1) := by decide +kernel
theorem dX11_isAsTold_251 : decode cX11_isAsTold 251 = .ok (.ireturn, 1) := by decide +kernel
theorem dX11_isAsTold_252 : decode cX11_isAsTold 252 = .ok (.iload_n 2, 1) := by decide +kernel
theorem dX11_isAsTold_253 : decode cX11_isAsTold 253 = .ok (.iconst 4, 1) := by decide +kernel
theorem dX11_isAsTold_254 : decode cX11_isAsTold 254 = .ok (.if_icmp .eq 8, 3) := by decide +kernel
theorem dX11_isAsTold_257 : decode cX11_isAsTold 257 = .ok (.iload_n 2, 1) := by decide +kernel
theorem dX11_isAsTold_258 : decode cX11_isAsTold 258 = .ok (.iconst 5, 1) := by decide +kernel
theorem dX11_isAsTold_259 : decode cX11_isAsTold 259 = .ok (.if_icmp .ne 33, 3) := by decide +kernel
theorem dX11_isAsTold_262 : decode cX11_isAsTold 262 = .ok (.aload_n 0, 1) := by decide +kernel
theorem dX11_isAsTold_263 : decode cX11_isAsTold 263 = .ok (.iload_n 1, 1) := by decide +kernel
theorem dX11_isAsTold_264 : decode cX11_isAsTold 264 = .ok (.invokevirtual 291, 3) := by decide +kernel
theorem dX11_isAsTold_267 : decode cX11_isAsTold 267 = .ok (.ifCond .eq 25, 3) := by decide +kernel
theorem dX11_isAsTold_270 : decode cX11_isAsTold 270 = .ok (.aload_n 0, 1) := by decide +kernel
theorem dX11_isAsTold_271 : decode cX11_isAsTold 271 = .ok (.iload_n 1, 1) := by decide +kernel
theorem dX11_isAsTold_272 : decode cX11_isAsTold 272 = .ok (.iload_n 2, 1) := by decide +kernel
theorem dX11_isAsTold_273 : decode cX11_isAsTold 273 = .ok (.iconst 5, 1) := by decide +kernel
theorem dX11_isAsTold_274 : decode cX11_isAsTold 274 = .ok (.if_icmp .ne 7, 3) := by decide +kernel
theorem dX11_isAsTold_277 : decode cX11_isAsTold 277 = .ok (.iconst 1, 1) := by decide +kernel
theorem dX11_isAsTold_278 : decode cX11_isAsTold 278 = .ok (.goto 4, 3) := by decide +kernel
theorem dX11_isAsTold_281 : decode cX11_isAsTold 281 = .ok (.iconst 0, 1) := by decide +kernel
theorem dX11_isAsTold_282 : decode cX11_isAsTold 282 = .ok (.invokevirtual 294, 3) := by decide +kernel
theorem dX11_isAsTold_285 : decode cX11_isAsTold 285 = .ok (.ifCond .eq 7, 3) := by decide +kernel
theorem dX11_isAsTold_288 : decode cX11_isAsTold 288 = .ok (.iconst 1, 1) := by decide +kernel
theorem dX11_isAsTold_289 : decode cX11_isAsTold 289 = .ok (.goto 4, 3) := by decide +kernel
theorem dX11_isAsTold_292 : decode cX11_isAsTold 292 = .ok (.iconst 0, 1) := by decide +kernel
theorem dX11_isAsTold_293 : decode cX11_isAsTold 293 = .ok (.ireturn, 1) := by decide +kernel
theorem dX11_isAsTold_294 : decode cX11_isAsTold 294 = .ok (.iload_n 2, 1) := by decide +kernel
theorem dX11_isAsTold_295 : decode cX11_isAsTold 295 = .ok (.iconst 2, 1) := by decide +kernel
theorem dX11_isAsTold_296 : decode cX11_isAsTold 296 = .ok (.if_icmp .ne 15, 3) := by decide +kernel
theorem dX11_isAsTold_299 : decode cX11_isAsTold 299 = .ok (.aload_n 0, 1) := by decide +kernel
theorem dX11_isAsTold_300 : decode cX11_isAsTold 300 = .ok (.iload_n 1, 1) := by decide +kernel
theorem dX11_isAsTold_301 : decode cX11_isAsTold 301 = .ok (.invokevirtual 291, 3) := by decide +kernel
theorem dX11_isAsTold_304 : decode cX11_isAsTold 304 = .ok (.ifCond .eq 7, 3) := by decide +kernel
theorem dX11_isAsTold_307 : decode cX11_isAsTold 307 = .ok (.iconst 1, 1) := by decide +kernel
theorem dX11_isAsTold_308 : decode cX11_isAsTold 308 = .ok (.goto 4, 3) := by decide +kernel
theorem dX11_isAsTold_311 : decode cX11_isAsTold 311 = .ok (.iconst 0, 1) := by decide +kernel
theorem dX11_isAsTold_312 : decode cX11_isAsTold 312 = .ok (.ireturn, 1) := by decide +kernel
theorem dX11_isAsTold_313 : decode cX11_isAsTold 313 = .ok (.iload_n 2, 1) := by decide +kernel
theorem dX11_isAsTold_314 : decode cX11_isAsTold 314 = .ok (.iconst 1, 1) := by decide +kernel
theorem dX11_isAsTold_315 : decode cX11_isAsTold 315 = .ok (.if_icmp .ne 7, 3) := by decide +kernel
theorem dX11_isAsTold_318 : decode cX11_isAsTold 318 = .ok (.iconst 1, 1) := by decide +kernel
theorem dX11_isAsTold_319 : decode cX11_isAsTold 319 = .ok (.goto 4, 3) := by decide +kernel
theorem dX11_isAsTold_322 : decode cX11_isAsTold 322 = .ok (.iconst 0, 1) := by decide +kernel
theorem dX11_isAsTold_323 : decode cX11_isAsTold 323 = .ok (.ireturn, 1) := by decide +kernel
theorem dX11_isAsTold_324 : decode cX11_isAsTold 324 = .ok (.iconst 0, 1) := by decide +kernel
theorem dX11_isAsTold_325 : decode cX11_isAsTold 325 = .ok (.ireturn, 1) := by decide +kernel

section
variable {p : Program} {l : Launch} {e : Env} {R : Room} {s : State} {m : MethodId} {args : Array Value} {below : List Frame} {meth : Method} {c : Code} {H : Heap} {locs : List Loc} {Qf : State → Prop}
variable {ls : Array Slot} {D : va_G} {ca : Nat → ClassId} {A : Nat → Prop} {ad : Nat → Nat → Nat} {u : iST}
def v_11_isAsTold_282 (Q : Int → iST → Prop) (y1 : Int) (y2 : Int) (u : iST) : Prop :=
  v_11_isDefinition y1 y2 (fun v14 u => 
  br (v14 = 0) (
    zt 0 (Q 0 u)) (
    zt 1 (Q 1 u))) u
set_option maxRecDepth 20000 in
set_option maxHeartbeats 4000000 in
theorem f_11_isAsTold_282 (X : yX RX11 p m c cX11_isAsTold 3 s args D ca ad A) (hRf : 5 ≤ R.frames) (hRl : 124 ≤ R.locals) {Q : Int → iST → Prop} (hret : ∀ (v : Int) (u : iST) (H : Heap) (locs : List Loc) (ls : Array Slot) (pc : Nat), bz v → Q v u → yW D ca A ad s H locs u → decode cX11_isAsTold pc = .ok (.ireturn, 1) → W p l e R s m args below meth c H locs 0 0 Qf (F0 m pc ls [.int (jI v)])) {y1 y2 : Int} (ry1 : inR y1) (ry2 : inR y2) (hw : yW D ca A ad s H locs u) (hl : lv_has ls 3 [(0, .ref (ad 0 9))]) (h : v_11_isAsTold_282 Q y1 y2 u) : W p l e R s m args below meth c H locs 0 0 Qf (F0 m 282 ls [.int (jI y2), .int (jI y1), .ref (ad 0 9)]) := by
  have hx := X.1.1
  have hb := X.1.2.1
  unfold v_11_isAsTold_282 at h
  refine ycI (n := 2) (e_11_isDefinition ry1 ry2 h) 11 9 (r := (RX11, TX11, 21)) rfl yG_11_294 yD_11_isDefinition X hw rfl yGo_11 (Nat.le_trans (Nat.le_of_ble_eq_true rfl) hRf) (Nat.le_trans (Nat.le_of_ble_eq_true rfl) hRl) rfl hl.1 (Nat.le_of_ble_eq_true rfl) rfl dX11_isAsTold_282 (fun v14 u H locs rv14 h hw => ?_)
  refine k_if_eq hx hb rv14 dX11_isAsTold_285 (tgt := 292) rfl h (fun h => ?_) (fun h => ?_)
  · refine lv_iconst hx hb dX11_isAsTold_292 (v := jI 0) rfl ?_
    exact hret _ _ _ _ _ _ h.1 h.2 hw dX11_isAsTold_293
  · refine lv_iconst hx hb dX11_isAsTold_288 (v := jI 1) rfl ?_
    refine lv_goto hx hb dX11_isAsTold_289 (tgt := 293) rfl ?_
    exact hret _ _ _ _ _ _ h.1 h.2 hw dX11_isAsTold_293

def v_11_isAsTold_262 (Q : Int → iST → Prop) (x1 : Int) (x2 : Int) (u : iST) : Prop :=
  v_11_isNameAt x1 (fun v13 u => 
  br (v13 = 0) (
    zt 0 (Q 0 u)) (
    br (x2 ≠ 5) (
      v_11_isAsTold_282 Q x1 0 u) (
      v_11_isAsTold_282 Q x1 1 u))) u
set_option maxRecDepth 20000 in
set_option maxHeartbeats 4000000 in
theorem f_11_isAsTold_262 (X : yX RX11 p m c cX11_isAsTold 3 s args D ca ad A) (hRf : 5 ≤ R.frames) (hRl : 124 ≤ R.locals) {Q : Int → iST → Prop} (hret : ∀ (v : Int) (u : iST) (H : Heap) (locs : List Loc) (ls : Array Slot) (pc : Nat), bz v → Q v u → yW D ca A ad s H locs u → decode cX11_isAsTold pc = .ok (.ireturn, 1) → W p l e R s m args below meth c H locs 0 0 Qf (F0 m pc ls [.int (jI v)])) {x1 x2 : Int} (rx1 : inR x1) (rx2 : inR x2) (hw : yW D ca A ad s H locs u) (hl : lv_has ls 3 [(0, .ref (ad 0 9)), (1, .int (jI x1)), (2, .int (jI x2))]) (h : v_11_isAsTold_262 Q x1 x2 u) : W p l e R s m args below meth c H locs 0 0 Qf (F0 m 262 ls []) := by
  have hx := X.1.1
  have hb := X.1.2.1
  unfold v_11_isAsTold_262 at h
  refine lv_aload_n hx hb dX11_isAsTold_262 rfl (lv_at hl 0 rfl) ?_
  refine lv_iload_n hx hb dX11_isAsTold_263 rfl (lv_at hl 1 rfl) ?_
  refine ycI (n := 1) (e_11_isNameAt rx1 h) 11 9 (r := (RX11, TX11, 21)) rfl yG_11_291 yD_11_isNameAt X hw rfl yGo_11 (Nat.le_trans (Nat.le_of_ble_eq_true rfl) hRf) (Nat.le_trans (Nat.le_of_ble_eq_true rfl) hRl) rfl hl.1 (Nat.le_of_ble_eq_true rfl) rfl dX11_isAsTold_264 (fun v13 u H locs rv13 h hw => ?_)
  refine k_if_eq hx hb rv13 dX11_isAsTold_267 (tgt := 292) rfl h (fun h => ?_) (fun h => ?_)
  · refine lv_iconst hx hb dX11_isAsTold_292 (v := jI 0) rfl ?_
    exact hret _ _ _ _ _ _ h.1 h.2 hw dX11_isAsTold_293
  · refine lv_aload_n hx hb dX11_isAsTold_270 rfl (lv_at hl 0 rfl) ?_
    refine lv_iload_n hx hb dX11_isAsTold_271 rfl (lv_at hl 1 rfl) ?_
    refine lv_iload_n hx hb dX11_isAsTold_272 rfl (lv_at hl 2 rfl) ?_
    refine lv_iconst hx hb dX11_isAsTold_273 (v := jI 5) rfl ?_
    refine k_icmp_ne hx hb rx2 (by decide) dX11_isAsTold_274 (tgt := 281) rfl h (fun h => ?_) (fun h => ?_)
    · refine lv_iconst hx hb dX11_isAsTold_281 (v := jI 0) rfl ?_
      exact f_11_isAsTold_282 X hRf hRl hret rx1 (by decide) hw (lv_sub hl [0] rfl) h
    · refine lv_iconst hx hb dX11_isAsTold_277 (v := jI 1) rfl ?_
      refine lv_goto hx hb dX11_isAsTold_278 (tgt := 282) rfl ?_
      exact f_11_isAsTold_282 X hRf hRl hret rx1 (by decide) hw (lv_sub hl [0] rfl) h

def v_11_isAsTold_26 (Q : Int → iST → Prop) (x1 : Int) (x2 : Int) (y0 : Int) (u : iST) : Prop :=
  br (y0 = 17) (
    br (x2 ≠ 2) (
      zt 0 (Q 0 u)) (
      v_11_isTermAt x1 1 (fun v3 u => 
      br (v3 = 0) (
        zt 0 (Q 0 u)) (
        rd (u.1 45) (fun v4 => 
        v_10_hasVariablesOf v4 0 (fun v5 u => 
        br (v5 = 0) (
          zt 0 (Q 0 u)) (
          zt 1 (Q 1 u))) u))) u)) (
  br (y0 = 18) (
    br (x2 ≠ 2) (
      zt 0 (Q 0 u)) (
      v_11_isTermAt x1 1 (fun v7 u => 
      br (v7 = 0) (
        zt 0 (Q 0 u)) (
        zt 1 (Q 1 u))) u)) (
  br (y0 = 19) (
    v_7_right x1 (fun v9 u => 
    v_7_right v9 (fun v10 u => 
    sw (iI u 47 v10) (fun u => 
    br (x2 < 2) (
      zt 0 (Q 0 u)) (
      v_11_isTermAt x1 1 (fun v11 u => 
      br (v11 = 0) (
        zt 0 (Q 0 u)) (
        zt 1 (Q 1 u))) u))) u) u) (
  br (y0 = 20) (
    br (x2 = 4) (
      v_11_isAsTold_262 Q x1 x2 u) (
      br (x2 ≠ 5) (
        zt 0 (Q 0 u)) (
        v_11_isAsTold_262 Q x1 x2 u))) (
  br (y0 = 21) (
    v_7_right x1 (fun v16 u => 
    v_7_right v16 (fun v17 u => 
    v_7_right v17 (fun v18 u => 
    sw (iI u 47 v18) (fun u => 
    br (x2 < 3) (
      zt 0 (Q 0 u)) (
      v_11_isNameAt x1 (fun v19 u => 
      br (v19 = 0) (
        zt 0 (Q 0 u)) (
        v_11_isTermAt x1 2 (fun v20 u => 
        br (v20 = 0) (
          zt 0 (Q 0 u)) (
          zt 1 (Q 1 u))) u)) u))) u) u) u) (
  br (y0 = 22) (
    br (x2 ≠ 4) (
      zt 0 (Q 0 u)) (
      v_11_isNameAt x1 (fun v22 u => 
      br (v22 = 0) (
        zt 0 (Q 0 u)) (
        v_11_isTermAt x1 2 (fun v23 u => 
        br (v23 = 0) (
          zt 0 (Q 0 u)) (
          zt 1 (Q 1 u))) u)) u)) (
  br (y0 = 23) (
    br (x2 ≠ 2) (
      zt 0 (Q 0 u)) (
      v_11_isNameAt x1 (fun v25 u => 
      br (v25 = 0) (
        zt 0 (Q 0 u)) (
        zt 1 (Q 1 u))) u)) (
  br (y0 = 24) (
    br (x2 ≠ 2) (
      zt 0 (Q 0 u)) (
      v_11_isNameAt x1 (fun v27 u => 
      br (v27 = 0) (
        zt 0 (Q 0 u)) (
        zt 1 (Q 1 u))) u)) (
  br (y0 = 25) (
    br (x2 ≠ 1) (
      zt 0 (Q 0 u)) (
      zt 1 (Q 1 u))) (
  zt 0 (Q 0 u))))))))))
set_option maxRecDepth 20000 in
set_option maxHeartbeats 4000000 in
theorem f_11_isAsTold_26 (X : yX RX11 p m c cX11_isAsTold 3 s args D ca ad A) (hRf : 5 ≤ R.frames) (hRl : 124 ≤ R.locals) {Q : Int → iST → Prop} (hret : ∀ (v : Int) (u : iST) (H : Heap) (locs : List Loc) (ls : Array Slot) (pc : Nat), bz v → Q v u → yW D ca A ad s H locs u → decode cX11_isAsTold pc = .ok (.ireturn, 1) → W p l e R s m args below meth c H locs 0 0 Qf (F0 m pc ls [.int (jI v)])) {x1 x2 y0 : Int} (rx1 : inR x1) (rx2 : inR x2) (ry0 : inR y0) (hw : yW D ca A ad s H locs u) (hl : lv_has ls 3 [(0, .ref (ad 0 9)), (1, .int (jI x1)), (2, .int (jI x2))]) (h : v_11_isAsTold_26 Q x1 x2 y0 u) : W p l e R s m args below meth c H locs 0 0 Qf (F0 m 26 ls [.int (jI y0)]) := by
  have hx := X.1.1
  have hb := X.1.2.1
  unfold v_11_isAsTold_26 at h
  refine br_sp h (fun ek h => ?_) (fun n6 h => ?_)
  · refine k_tabIn (tgt := 76) (off := 50) hx hb dX11_isAsTold_26 ek (by decide) (by decide) rfl rfl ?_
    refine lv_iload_n hx hb dX11_isAsTold_76 rfl (lv_at hl 2 rfl) ?_
    refine lv_iconst hx hb dX11_isAsTold_77 (v := jI 2) rfl ?_
    refine k_icmp_ne hx hb rx2 (by decide) dX11_isAsTold_78 (tgt := 109) rfl h (fun h => ?_) (fun h => ?_)
    · refine lv_iconst hx hb dX11_isAsTold_109 (v := jI 0) rfl ?_
      exact hret _ _ _ _ _ _ h.1 h.2 hw dX11_isAsTold_110
    · refine lv_aload_n hx hb dX11_isAsTold_81 rfl (lv_at hl 0 rfl) ?_
      refine lv_iload_n hx hb dX11_isAsTold_82 rfl (lv_at hl 1 rfl) ?_
      refine lv_iconst hx hb dX11_isAsTold_83 (v := jI 1) rfl ?_
      refine ycI (n := 2) (e_11_isTermAt rx1 (by decide) h) 11 9 (r := (RX11, TX11, 21)) rfl yG_11_281 yD_11_isTermAt X hw rfl yGo_11 (Nat.le_trans (Nat.le_of_ble_eq_true rfl) hRf) (Nat.le_trans (Nat.le_of_ble_eq_true rfl) hRl) rfl hl.1 (Nat.le_of_ble_eq_true rfl) rfl dX11_isAsTold_84 (fun v3 u H locs rv3 h hw => ?_)
      refine k_if_eq hx hb rv3 dX11_isAsTold_87 (tgt := 109) rfl h (fun h => ?_) (fun h => ?_)
      · refine lv_iconst hx hb dX11_isAsTold_109 (v := jI 0) rfl ?_
        exact hret _ _ _ _ _ _ h.1 h.2 hw dX11_isAsTold_110
      · refine lv_aload_n hx hb dX11_isAsTold_90 rfl (lv_at hl 0 rfl) ?_
        refine yg_11_54 X hw dX11_isAsTold_91 ?_
        refine lv_aload_n hx hb dX11_isAsTold_94 rfl (lv_at hl 0 rfl) ?_
        refine yg_11_118 X hw dX11_isAsTold_95 h (fun v4 rv4 h => ?_)
        refine lv_iconst hx hb dX11_isAsTold_98 (v := jI 0) rfl ?_
        refine ycI (n := 2) (e_10_hasVariablesOf rv4 (by decide) h) 10 8 (r := (RX10, TX10, 16)) rfl yG_11_285 yD_10_hasVariablesOf X hw rfl yGo_10 (Nat.le_trans (Nat.le_of_ble_eq_true rfl) hRf) (Nat.le_trans (Nat.le_of_ble_eq_true rfl) hRl) rfl hl.1 (Nat.le_of_ble_eq_true rfl) rfl dX11_isAsTold_99 (fun v5 u H locs rv5 h hw => ?_)
        refine k_if_eq hx hb rv5 dX11_isAsTold_102 (tgt := 109) rfl h (fun h => ?_) (fun h => ?_)
        · refine lv_iconst hx hb dX11_isAsTold_109 (v := jI 0) rfl ?_
          exact hret _ _ _ _ _ _ h.1 h.2 hw dX11_isAsTold_110
        · refine lv_iconst hx hb dX11_isAsTold_105 (v := jI 1) rfl ?_
          refine lv_goto hx hb dX11_isAsTold_106 (tgt := 110) rfl ?_
          exact hret _ _ _ _ _ _ h.1 h.2 hw dX11_isAsTold_110
  refine br_sp h (fun ek h => ?_) (fun n8 h => ?_)
  · refine k_tabIn (tgt := 111) (off := 85) hx hb dX11_isAsTold_26 ek (by decide) (by decide) rfl rfl ?_
    refine lv_iload_n hx hb dX11_isAsTold_111 rfl (lv_at hl 2 rfl) ?_
    refine lv_iconst hx hb dX11_isAsTold_112 (v := jI 2) rfl ?_
    refine k_icmp_ne hx hb rx2 (by decide) dX11_isAsTold_113 (tgt := 129) rfl h (fun h => ?_) (fun h => ?_)
    · refine lv_iconst hx hb dX11_isAsTold_129 (v := jI 0) rfl ?_
      exact hret _ _ _ _ _ _ h.1 h.2 hw dX11_isAsTold_130
    · refine lv_aload_n hx hb dX11_isAsTold_116 rfl (lv_at hl 0 rfl) ?_
      refine lv_iload_n hx hb dX11_isAsTold_117 rfl (lv_at hl 1 rfl) ?_
      refine lv_iconst hx hb dX11_isAsTold_118 (v := jI 1) rfl ?_
      refine ycI (n := 2) (e_11_isTermAt rx1 (by decide) h) 11 9 (r := (RX11, TX11, 21)) rfl yG_11_281 yD_11_isTermAt X hw rfl yGo_11 (Nat.le_trans (Nat.le_of_ble_eq_true rfl) hRf) (Nat.le_trans (Nat.le_of_ble_eq_true rfl) hRl) rfl hl.1 (Nat.le_of_ble_eq_true rfl) rfl dX11_isAsTold_119 (fun v7 u H locs rv7 h hw => ?_)
      refine k_if_eq hx hb rv7 dX11_isAsTold_122 (tgt := 129) rfl h (fun h => ?_) (fun h => ?_)
      · refine lv_iconst hx hb dX11_isAsTold_129 (v := jI 0) rfl ?_
        exact hret _ _ _ _ _ _ h.1 h.2 hw dX11_isAsTold_130
      · refine lv_iconst hx hb dX11_isAsTold_125 (v := jI 1) rfl ?_
        refine lv_goto hx hb dX11_isAsTold_126 (tgt := 130) rfl ?_
        exact hret _ _ _ _ _ _ h.1 h.2 hw dX11_isAsTold_130
  refine br_sp h (fun ek h => ?_) (fun n12 h => ?_)
  · refine k_tabIn (tgt := 131) (off := 105) hx hb dX11_isAsTold_26 ek (by decide) (by decide) rfl rfl ?_
    refine lv_aload_n hx hb dX11_isAsTold_131 rfl (lv_at hl 0 rfl) ?_
    refine lv_aload_n hx hb dX11_isAsTold_132 rfl (lv_at hl 0 rfl) ?_
    refine yg_11_14 X hw dX11_isAsTold_133 ?_
    refine lv_aload_n hx hb dX11_isAsTold_136 rfl (lv_at hl 0 rfl) ?_
    refine yg_11_14 X hw dX11_isAsTold_137 ?_
    refine lv_iload_n hx hb dX11_isAsTold_140 rfl (lv_at hl 1 rfl) ?_
    refine ycI (n := 1) (e_7_right rx1 h) 7 6 (r := (RX7, TX7, 9)) rfl yG_11_288 yD_7_right X hw rfl yGo_7 (Nat.le_trans (Nat.le_of_ble_eq_true rfl) hRf) (Nat.le_trans (Nat.le_of_ble_eq_true rfl) hRl) rfl hl.1 (Nat.le_of_ble_eq_true rfl) rfl dX11_isAsTold_141 (fun v9 u H locs rv9 h hw => ?_)
    refine ycI (n := 1) (e_7_right rv9 h) 7 6 (r := (RX7, TX7, 9)) rfl yG_11_288 yD_7_right X hw rfl yGo_7 (Nat.le_trans (Nat.le_of_ble_eq_true rfl) hRf) (Nat.le_trans (Nat.le_of_ble_eq_true rfl) hRl) rfl hl.1 (Nat.le_of_ble_eq_true rfl) rfl dX11_isAsTold_144 (fun v10 u H locs rv10 h hw => ?_)
    refine yp_11_124 X hw rv10 dX11_isAsTold_147 h (fun H locs u hw h => ?_)
    refine lv_iload_n hx hb dX11_isAsTold_150 rfl (lv_at hl 2 rfl) ?_
    refine lv_iconst hx hb dX11_isAsTold_151 (v := jI 2) rfl ?_
    refine k_icmp_lt hx hb rx2 (by decide) dX11_isAsTold_152 (tgt := 168) rfl h (fun h => ?_) (fun h => ?_)
    · refine lv_iconst hx hb dX11_isAsTold_168 (v := jI 0) rfl ?_
      exact hret _ _ _ _ _ _ h.1 h.2 hw dX11_isAsTold_169
    · refine lv_aload_n hx hb dX11_isAsTold_155 rfl (lv_at hl 0 rfl) ?_
      refine lv_iload_n hx hb dX11_isAsTold_156 rfl (lv_at hl 1 rfl) ?_
      refine lv_iconst hx hb dX11_isAsTold_157 (v := jI 1) rfl ?_
      refine ycI (n := 2) (e_11_isTermAt rx1 (by decide) h) 11 9 (r := (RX11, TX11, 21)) rfl yG_11_281 yD_11_isTermAt X hw rfl yGo_11 (Nat.le_trans (Nat.le_of_ble_eq_true rfl) hRf) (Nat.le_trans (Nat.le_of_ble_eq_true rfl) hRl) rfl hl.1 (Nat.le_of_ble_eq_true rfl) rfl dX11_isAsTold_158 (fun v11 u H locs rv11 h hw => ?_)
      refine k_if_eq hx hb rv11 dX11_isAsTold_161 (tgt := 168) rfl h (fun h => ?_) (fun h => ?_)
      · refine lv_iconst hx hb dX11_isAsTold_168 (v := jI 0) rfl ?_
        exact hret _ _ _ _ _ _ h.1 h.2 hw dX11_isAsTold_169
      · refine lv_iconst hx hb dX11_isAsTold_164 (v := jI 1) rfl ?_
        refine lv_goto hx hb dX11_isAsTold_165 (tgt := 169) rfl ?_
        exact hret _ _ _ _ _ _ h.1 h.2 hw dX11_isAsTold_169
  refine br_sp h (fun ek h => ?_) (fun n15 h => ?_)
  · refine k_tabIn (tgt := 252) (off := 226) hx hb dX11_isAsTold_26 ek (by decide) (by decide) rfl rfl ?_
    refine lv_iload_n hx hb dX11_isAsTold_252 rfl (lv_at hl 2 rfl) ?_
    refine lv_iconst hx hb dX11_isAsTold_253 (v := jI 4) rfl ?_
    refine k_icmp_eq hx hb rx2 (by decide) dX11_isAsTold_254 (tgt := 262) rfl h (fun h => ?_) (fun h => ?_)
    · exact f_11_isAsTold_262 X hRf hRl hret rx1 rx2 hw hl h
    · refine lv_iload_n hx hb dX11_isAsTold_257 rfl (lv_at hl 2 rfl) ?_
      refine lv_iconst hx hb dX11_isAsTold_258 (v := jI 5) rfl ?_
      refine k_icmp_ne hx hb rx2 (by decide) dX11_isAsTold_259 (tgt := 292) rfl h (fun h => ?_) (fun h => ?_)
      · refine lv_iconst hx hb dX11_isAsTold_292 (v := jI 0) rfl ?_
        exact hret _ _ _ _ _ _ h.1 h.2 hw dX11_isAsTold_293
      · exact f_11_isAsTold_262 X hRf hRl hret rx1 rx2 hw hl h
  refine br_sp h (fun ek h => ?_) (fun n21 h => ?_)
  · refine k_tabIn (tgt := 170) (off := 144) hx hb dX11_isAsTold_26 ek (by decide) (by decide) rfl rfl ?_
    refine lv_aload_n hx hb dX11_isAsTold_170 rfl (lv_at hl 0 rfl) ?_
    refine lv_aload_n hx hb dX11_isAsTold_171 rfl (lv_at hl 0 rfl) ?_
    refine yg_11_14 X hw dX11_isAsTold_172 ?_
    refine lv_aload_n hx hb dX11_isAsTold_175 rfl (lv_at hl 0 rfl) ?_
    refine yg_11_14 X hw dX11_isAsTold_176 ?_
    refine lv_aload_n hx hb dX11_isAsTold_179 rfl (lv_at hl 0 rfl) ?_
    refine yg_11_14 X hw dX11_isAsTold_180 ?_
    refine lv_iload_n hx hb dX11_isAsTold_183 rfl (lv_at hl 1 rfl) ?_
    refine ycI (n := 1) (e_7_right rx1 h) 7 6 (r := (RX7, TX7, 9)) rfl yG_11_288 yD_7_right X hw rfl yGo_7 (Nat.le_trans (Nat.le_of_ble_eq_true rfl) hRf) (Nat.le_trans (Nat.le_of_ble_eq_true rfl) hRl) rfl hl.1 (Nat.le_of_ble_eq_true rfl) rfl dX11_isAsTold_184 (fun v16 u H locs rv16 h hw => ?_)
    refine ycI (n := 1) (e_7_right rv16 h) 7 6 (r := (RX7, TX7, 9)) rfl yG_11_288 yD_7_right X hw rfl yGo_7 (Nat.le_trans (Nat.le_of_ble_eq_true rfl) hRf) (Nat.le_trans (Nat.le_of_ble_eq_true rfl) hRl) rfl hl.1 (Nat.le_of_ble_eq_true rfl) rfl dX11_isAsTold_187 (fun v17 u H locs rv17 h hw => ?_)
    refine ycI (n := 1) (e_7_right rv17 h) 7 6 (r := (RX7, TX7, 9)) rfl yG_11_288 yD_7_right X hw rfl yGo_7 (Nat.le_trans (Nat.le_of_ble_eq_true rfl) hRf) (Nat.le_trans (Nat.le_of_ble_eq_true rfl) hRl) rfl hl.1 (Nat.le_of_ble_eq_true rfl) rfl dX11_isAsTold_190 (fun v18 u H locs rv18 h hw => ?_)
    refine yp_11_124 X hw rv18 dX11_isAsTold_193 h (fun H locs u hw h => ?_)
    refine lv_iload_n hx hb dX11_isAsTold_196 rfl (lv_at hl 2 rfl) ?_
    refine lv_iconst hx hb dX11_isAsTold_197 (v := jI 3) rfl ?_
    refine k_icmp_lt hx hb rx2 (by decide) dX11_isAsTold_198 (tgt := 222) rfl h (fun h => ?_) (fun h => ?_)
    · refine lv_iconst hx hb dX11_isAsTold_222 (v := jI 0) rfl ?_
      exact hret _ _ _ _ _ _ h.1 h.2 hw dX11_isAsTold_223
    · refine lv_aload_n hx hb dX11_isAsTold_201 rfl (lv_at hl 0 rfl) ?_
      refine lv_iload_n hx hb dX11_isAsTold_202 rfl (lv_at hl 1 rfl) ?_
      refine ycI (n := 1) (e_11_isNameAt rx1 h) 11 9 (r := (RX11, TX11, 21)) rfl yG_11_291 yD_11_isNameAt X hw rfl yGo_11 (Nat.le_trans (Nat.le_of_ble_eq_true rfl) hRf) (Nat.le_trans (Nat.le_of_ble_eq_true rfl) hRl) rfl hl.1 (Nat.le_of_ble_eq_true rfl) rfl dX11_isAsTold_203 (fun v19 u H locs rv19 h hw => ?_)
      refine k_if_eq hx hb rv19 dX11_isAsTold_206 (tgt := 222) rfl h (fun h => ?_) (fun h => ?_)
      · refine lv_iconst hx hb dX11_isAsTold_222 (v := jI 0) rfl ?_
        exact hret _ _ _ _ _ _ h.1 h.2 hw dX11_isAsTold_223
      · refine lv_aload_n hx hb dX11_isAsTold_209 rfl (lv_at hl 0 rfl) ?_
        refine lv_iload_n hx hb dX11_isAsTold_210 rfl (lv_at hl 1 rfl) ?_
        refine lv_iconst hx hb dX11_isAsTold_211 (v := jI 2) rfl ?_
        refine ycI (n := 2) (e_11_isTermAt rx1 (by decide) h) 11 9 (r := (RX11, TX11, 21)) rfl yG_11_281 yD_11_isTermAt X hw rfl yGo_11 (Nat.le_trans (Nat.le_of_ble_eq_true rfl) hRf) (Nat.le_trans (Nat.le_of_ble_eq_true rfl) hRl) rfl hl.1 (Nat.le_of_ble_eq_true rfl) rfl dX11_isAsTold_212 (fun v20 u H locs rv20 h hw => ?_)
        refine k_if_eq hx hb rv20 dX11_isAsTold_215 (tgt := 222) rfl h (fun h => ?_) (fun h => ?_)
        · refine lv_iconst hx hb dX11_isAsTold_222 (v := jI 0) rfl ?_
          exact hret _ _ _ _ _ _ h.1 h.2 hw dX11_isAsTold_223
        · refine lv_iconst hx hb dX11_isAsTold_218 (v := jI 1) rfl ?_
          refine lv_goto hx hb dX11_isAsTold_219 (tgt := 223) rfl ?_
          exact hret _ _ _ _ _ _ h.1 h.2 hw dX11_isAsTold_223
  refine br_sp h (fun ek h => ?_) (fun n24 h => ?_)
  · refine k_tabIn (tgt := 224) (off := 198) hx hb dX11_isAsTold_26 ek (by decide) (by decide) rfl rfl ?_
    refine lv_iload_n hx hb dX11_isAsTold_224 rfl (lv_at hl 2 rfl) ?_
    refine lv_iconst hx hb dX11_isAsTold_225 (v := jI 4) rfl ?_
    refine k_icmp_ne hx hb rx2 (by decide) dX11_isAsTold_226 (tgt := 250) rfl h (fun h => ?_) (fun h => ?_)
    · refine lv_iconst hx hb dX11_isAsTold_250 (v := jI 0) rfl ?_
      exact hret _ _ _ _ _ _ h.1 h.2 hw dX11_isAsTold_251
    · refine lv_aload_n hx hb dX11_isAsTold_229 rfl (lv_at hl 0 rfl) ?_
      refine lv_iload_n hx hb dX11_isAsTold_230 rfl (lv_at hl 1 rfl) ?_
      refine ycI (n := 1) (e_11_isNameAt rx1 h) 11 9 (r := (RX11, TX11, 21)) rfl yG_11_291 yD_11_isNameAt X hw rfl yGo_11 (Nat.le_trans (Nat.le_of_ble_eq_true rfl) hRf) (Nat.le_trans (Nat.le_of_ble_eq_true rfl) hRl) rfl hl.1 (Nat.le_of_ble_eq_true rfl) rfl dX11_isAsTold_231 (fun v22 u H locs rv22 h hw => ?_)
      refine k_if_eq hx hb rv22 dX11_isAsTold_234 (tgt := 250) rfl h (fun h => ?_) (fun h => ?_)
      · refine lv_iconst hx hb dX11_isAsTold_250 (v := jI 0) rfl ?_
        exact hret _ _ _ _ _ _ h.1 h.2 hw dX11_isAsTold_251
      · refine lv_aload_n hx hb dX11_isAsTold_237 rfl (lv_at hl 0 rfl) ?_
        refine lv_iload_n hx hb dX11_isAsTold_238 rfl (lv_at hl 1 rfl) ?_
        refine lv_iconst hx hb dX11_isAsTold_239 (v := jI 2) rfl ?_
        refine ycI (n := 2) (e_11_isTermAt rx1 (by decide) h) 11 9 (r := (RX11, TX11, 21)) rfl yG_11_281 yD_11_isTermAt X hw rfl yGo_11 (Nat.le_trans (Nat.le_of_ble_eq_true rfl) hRf) (Nat.le_trans (Nat.le_of_ble_eq_true rfl) hRl) rfl hl.1 (Nat.le_of_ble_eq_true rfl) rfl dX11_isAsTold_240 (fun v23 u H locs rv23 h hw => ?_)
        refine k_if_eq hx hb rv23 dX11_isAsTold_243 (tgt := 250) rfl h (fun h => ?_) (fun h => ?_)
        · refine lv_iconst hx hb dX11_isAsTold_250 (v := jI 0) rfl ?_
          exact hret _ _ _ _ _ _ h.1 h.2 hw dX11_isAsTold_251
        · refine lv_iconst hx hb dX11_isAsTold_246 (v := jI 1) rfl ?_
          refine lv_goto hx hb dX11_isAsTold_247 (tgt := 251) rfl ?_
          exact hret _ _ _ _ _ _ h.1 h.2 hw dX11_isAsTold_251
  refine br_sp h (fun ek h => ?_) (fun n26 h => ?_)
  · refine k_tabIn (tgt := 294) (off := 268) hx hb dX11_isAsTold_26 ek (by decide) (by decide) rfl rfl ?_
    refine lv_iload_n hx hb dX11_isAsTold_294 rfl (lv_at hl 2 rfl) ?_
    refine lv_iconst hx hb dX11_isAsTold_295 (v := jI 2) rfl ?_
    refine k_icmp_ne hx hb rx2 (by decide) dX11_isAsTold_296 (tgt := 311) rfl h (fun h => ?_) (fun h => ?_)
    · refine lv_iconst hx hb dX11_isAsTold_311 (v := jI 0) rfl ?_
      exact hret _ _ _ _ _ _ h.1 h.2 hw dX11_isAsTold_312
    · refine lv_aload_n hx hb dX11_isAsTold_299 rfl (lv_at hl 0 rfl) ?_
      refine lv_iload_n hx hb dX11_isAsTold_300 rfl (lv_at hl 1 rfl) ?_
      refine ycI (n := 1) (e_11_isNameAt rx1 h) 11 9 (r := (RX11, TX11, 21)) rfl yG_11_291 yD_11_isNameAt X hw rfl yGo_11 (Nat.le_trans (Nat.le_of_ble_eq_true rfl) hRf) (Nat.le_trans (Nat.le_of_ble_eq_true rfl) hRl) rfl hl.1 (Nat.le_of_ble_eq_true rfl) rfl dX11_isAsTold_301 (fun v25 u H locs rv25 h hw => ?_)
      refine k_if_eq hx hb rv25 dX11_isAsTold_304 (tgt := 311) rfl h (fun h => ?_) (fun h => ?_)
      · refine lv_iconst hx hb dX11_isAsTold_311 (v := jI 0) rfl ?_
        exact hret _ _ _ _ _ _ h.1 h.2 hw dX11_isAsTold_312
      · refine lv_iconst hx hb dX11_isAsTold_307 (v := jI 1) rfl ?_
        refine lv_goto hx hb dX11_isAsTold_308 (tgt := 312) rfl ?_
        exact hret _ _ _ _ _ _ h.1 h.2 hw dX11_isAsTold_312
  refine br_sp h (fun ek h => ?_) (fun n28 h => ?_)
  · refine k_tabIn (tgt := 294) (off := 268) hx hb dX11_isAsTold_26 ek (by decide) (by decide) rfl rfl ?_
    refine lv_iload_n hx hb dX11_isAsTold_294 rfl (lv_at hl 2 rfl) ?_
    refine lv_iconst hx hb dX11_isAsTold_295 (v := jI 2) rfl ?_
    refine k_icmp_ne hx hb rx2 (by decide) dX11_isAsTold_296 (tgt := 311) rfl h (fun h => ?_) (fun h => ?_)
    · refine lv_iconst hx hb dX11_isAsTold_311 (v := jI 0) rfl ?_
      exact hret _ _ _ _ _ _ h.1 h.2 hw dX11_isAsTold_312
    · refine lv_aload_n hx hb dX11_isAsTold_299 rfl (lv_at hl 0 rfl) ?_
      refine lv_iload_n hx hb dX11_isAsTold_300 rfl (lv_at hl 1 rfl) ?_
      refine ycI (n := 1) (e_11_isNameAt rx1 h) 11 9 (r := (RX11, TX11, 21)) rfl yG_11_291 yD_11_isNameAt X hw rfl yGo_11 (Nat.le_trans (Nat.le_of_ble_eq_true rfl) hRf) (Nat.le_trans (Nat.le_of_ble_eq_true rfl) hRl) rfl hl.1 (Nat.le_of_ble_eq_true rfl) rfl dX11_isAsTold_301 (fun v27 u H locs rv27 h hw => ?_)
      refine k_if_eq hx hb rv27 dX11_isAsTold_304 (tgt := 311) rfl h (fun h => ?_) (fun h => ?_)
      · refine lv_iconst hx hb dX11_isAsTold_311 (v := jI 0) rfl ?_
        exact hret _ _ _ _ _ _ h.1 h.2 hw dX11_isAsTold_312
      · refine lv_iconst hx hb dX11_isAsTold_307 (v := jI 1) rfl ?_
        refine lv_goto hx hb dX11_isAsTold_308 (tgt := 312) rfl ?_
        exact hret _ _ _ _ _ _ h.1 h.2 hw dX11_isAsTold_312
  refine br_sp h (fun ek h => ?_) (fun n29 h => ?_)
  · refine k_tabIn (tgt := 313) (off := 287) hx hb dX11_isAsTold_26 ek (by decide) (by decide) rfl rfl ?_
    refine lv_iload_n hx hb dX11_isAsTold_313 rfl (lv_at hl 2 rfl) ?_
    refine lv_iconst hx hb dX11_isAsTold_314 (v := jI 1) rfl ?_
    refine k_icmp_ne hx hb rx2 (by decide) dX11_isAsTold_315 (tgt := 322) rfl h (fun h => ?_) (fun h => ?_)
    · refine lv_iconst hx hb dX11_isAsTold_322 (v := jI 0) rfl ?_
      exact hret _ _ _ _ _ _ h.1 h.2 hw dX11_isAsTold_323
    · refine lv_iconst hx hb dX11_isAsTold_318 (v := jI 1) rfl ?_
      refine lv_goto hx hb dX11_isAsTold_319 (tgt := 323) rfl ?_
      exact hret _ _ _ _ _ _ h.1 h.2 hw dX11_isAsTold_323
  refine k_tabOut (tgt := 324) hx hb ry0 dX11_isAsTold_26 (by omega) rfl ?_
  refine lv_iconst hx hb dX11_isAsTold_324 (v := jI 0) rfl ?_
  exact hret _ _ _ _ _ _ h.1 h.2 hw dX11_isAsTold_325

def v_11_isAsTold (a0 : Int) (Q : Int → iST → Prop) (u : iST) : Prop :=
  v_7_lengthOf a0 (fun v1 u => 
  br (1 ≤ v1) (
    v_7_left a0 (fun v2 u => 
    v_11_isAsTold_26 Q a0 v1 v2 u) u) (
    v_11_isAsTold_26 Q a0 v1 (-1) u)) u
set_option maxRecDepth 20000 in
set_option maxHeartbeats 4000000 in
theorem f_11_isAsTold_s (X : yX RX11 p m c cX11_isAsTold 3 s args D ca ad A) (hRf : 5 ≤ R.frames) (hRl : 124 ≤ R.locals) {Q : Int → iST → Prop} (hret : ∀ (v : Int) (u : iST) (H : Heap) (locs : List Loc) (ls : Array Slot) (pc : Nat), bz v → Q v u → yW D ca A ad s H locs u → decode cX11_isAsTold pc = .ok (.ireturn, 1) → W p l e R s m args below meth c H locs 0 0 Qf (F0 m pc ls [.int (jI v)])) {a0 : Int} (ra0 : inR a0) (hw : yW D ca A ad s H locs u) (hl : lv_has ls 3 [(0, .ref (ad 0 9)), (1, .int (jI a0))]) (h : v_11_isAsTold a0 Q u) : W p l e R s m args below meth c H locs 0 0 Qf (F0 m 0 ls []) := by
  have hx := X.1.1
  have hb := X.1.2.1
  unfold v_11_isAsTold at h
  refine lv_aload_n hx hb dX11_isAsTold_0 rfl (lv_at hl 0 rfl) ?_
  refine yg_11_14 X hw dX11_isAsTold_1 ?_
  refine lv_iload_n hx hb dX11_isAsTold_4 rfl (lv_at hl 1 rfl) ?_
  refine ycI (n := 1) (e_7_lengthOf ra0 h) 7 6 (r := (RX7, TX7, 9)) rfl yG_11_278 yD_7_lengthOf X hw rfl yGo_7 (Nat.le_trans (Nat.le_of_ble_eq_true rfl) hRf) (Nat.le_trans (Nat.le_of_ble_eq_true rfl) hRl) rfl hl.1 (Nat.le_of_ble_eq_true rfl) rfl dX11_isAsTold_5 (fun v1 u H locs rv1 h hw => ?_)
  refine lv_istore_n hx hb dX11_isAsTold_8 rfl hl (by decide) rfl (fun ls hl => ?_)
  have hl : lv_has ls 3 [(2, .int (jI v1)), (0, .ref (ad 0 9)), (1, .int (jI a0))] := hl
  refine lv_iload_n hx hb dX11_isAsTold_9 rfl (lv_at hl 0 rfl) ?_
  refine lv_iconst hx hb dX11_isAsTold_10 (v := jI 1) rfl ?_
  refine k_icmp_ge hx hb rv1 (by decide) dX11_isAsTold_11 (tgt := 18) rfl h (fun h => ?_) (fun h => ?_)
  · refine lv_aload_n hx hb dX11_isAsTold_18 rfl (lv_at hl 1 rfl) ?_
    refine yg_11_14 X hw dX11_isAsTold_19 ?_
    refine lv_iload_n hx hb dX11_isAsTold_22 rfl (lv_at hl 2 rfl) ?_
    refine ycI (n := 1) (e_7_left ra0 h) 7 6 (r := (RX7, TX7, 9)) rfl yG_11_170 yD_7_left X hw rfl yGo_7 (Nat.le_trans (Nat.le_of_ble_eq_true rfl) hRf) (Nat.le_trans (Nat.le_of_ble_eq_true rfl) hRl) rfl hl.1 (Nat.le_of_ble_eq_true rfl) rfl dX11_isAsTold_23 (fun v2 u H locs rv2 h hw => ?_)
    exact f_11_isAsTold_26 X hRf hRl hret ra0 rv1 rv2 hw (lv_sub hl [1, 2, 0] rfl) h
  · refine lv_iconst hx hb dX11_isAsTold_14 (v := jI (-1)) rfl ?_
    refine lv_goto hx hb dX11_isAsTold_15 (tgt := 26) rfl ?_
    exact f_11_isAsTold_26 X hRf hRl hret ra0 rv1 (by decide) hw (lv_sub hl [1, 2, 0] rfl) h

end
theorem e_11_isAsTold {l : Launch} {a0 : Int} (ra0 : inR a0) {Q : Int → iST → Prop} {u : iST} (h : v_11_isAsTold a0 Q u) : yMI l yX11_isAsTold (.code yX11_isAsTold cX11_isAsTold 3 (some .boolean) :: wsN) { frames := 5, cells := 0, slots := 0, locals := 124 } (fun ad => [.ref (ad 0 9), .int (jI a0)]) Q u := yMZ_of (own := RX11) rfl (by decide +kernel) (fun _ => Nat.le_of_ble_eq_true rfl) (fun X hRf hRl hret hw hl => f_11_isAsTold_s X hRf hRl hret ra0 hw hl h)

/-! ProofHouse.nameAsked -/
theorem dX11_nameAsked_0 : decode cX11_nameAsked 0 = .ok (.aload_n 0, 1) := by decide +kernel
theorem dX11_nameAsked_1 : decode cX11_nameAsked 1 = .ok (.getfield 27, 3) := by decide +kernel
theorem dX11_nameAsked_4 : decode cX11_nameAsked 4 = .ok (.aload_n 0, 1) := by decide +kernel
theorem dX11_nameAsked_5 : decode cX11_nameAsked 5 = .ok (.getfield 115, 3) := by decide +kernel
theorem dX11_nameAsked_8 : decode cX11_nameAsked 8 = .ok (.invokevirtual 319, 3) := by decide +kernel
theorem dX11_nameAsked_11 : decode cX11_nameAsked 11 = .ok (.istore_n 2, 1) := by decide +kernel
theorem dX11_nameAsked_12 : decode cX11_nameAsked 12 = .ok (.aload_n 0, 1) := by decide +kernel
theorem dX11_nameAsked_13 : decode cX11_nameAsked 13 = .ok (.getfield 14, 3) := by decide +kernel
theorem dX11_nameAsked_16 : decode cX11_nameAsked 16 = .ok (.iload_n 1, 1) := by decide +kernel
theorem dX11_nameAsked_17 : decode cX11_nameAsked 17 = .ok (.invokevirtual 170, 3) := by decide +kernel
theorem dX11_nameAsked_20 : decode cX11_nameAsked 20 = .ok (.tableswitch 142 20 25 #[40, 76, 76, 102, 102, 126], 40) := by decide +kernel
theorem dX11_nameAsked_60 : decode cX11_nameAsked 60 = .ok (.aload_n 0, 1) := by decide +kernel
theorem dX11_nameAsked_61 : decode cX11_nameAsked 61 = .ok (.getfield 27, 3) := by decide +kernel
theorem dX11_nameAsked_64 : decode cX11_nameAsked 64 = .ok (.aload_n 0, 1) := by decide +kernel
theorem dX11_nameAsked_65 : decode cX11_nameAsked 65 = .ok (.getfield 115, 3) := by decide +kernel
theorem dX11_nameAsked_68 : decode cX11_nameAsked 68 = .ok (.invokevirtual 322, 3) := by decide +kernel
theorem dX11_nameAsked_71 : decode cX11_nameAsked 71 = .ok (.iconst (-1), 1) := by decide +kernel
theorem dX11_nameAsked_72 : decode cX11_nameAsked 72 = .ok (.if_icmp .eq 5, 3) := by decide +kernel
theorem dX11_nameAsked_75 : decode cX11_nameAsked 75 = .ok (.iconst 3, 1) := by decide +kernel
theorem dX11_nameAsked_76 : decode cX11_nameAsked 76 = .ok (.ireturn, 1) := by decide +kernel
theorem dX11_nameAsked_77 : decode cX11_nameAsked 77 = .ok (.aload_n 0, 1) := by decide +kernel
theorem dX11_nameAsked_78 : decode cX11_nameAsked 78 = .ok (.getfield 27, 3) := by decide +kernel
theorem dX11_nameAsked_81 : decode cX11_nameAsked 81 = .ok (.getfield 189, 3) := by decide +kernel
theorem dX11_nameAsked_84 : decode cX11_nameAsked 84 = .ok (.bipush 40, 2) := by decide +kernel
theorem dX11_nameAsked_86 : decode cX11_nameAsked 86 = .ok (.if_icmp .ge 7, 3) := by decide +kernel
theorem dX11_nameAsked_89 : decode cX11_nameAsked 89 = .ok (.iconst 0, 1) := by decide +kernel
theorem dX11_nameAsked_90 : decode cX11_nameAsked 90 = .ok (.goto 5, 3) := by decide +kernel
theorem dX11_nameAsked_93 : decode cX11_nameAsked 93 = .ok (.bipush 8, 2) := by decide +kernel
theorem dX11_nameAsked_95 : decode cX11_nameAsked 95 = .ok (.ireturn, 1) := by decide +kernel
theorem dX11_nameAsked_96 : decode cX11_nameAsked 96 = .ok (.iload_n 2, 1) := by decide +kernel
theorem dX11_nameAsked_97 : decode cX11_nameAsked 97 = .ok (.iconst (-1), 1) := by decide +kernel
theorem dX11_nameAsked_98 : decode cX11_nameAsked 98 = .ok (.if_icmp .eq 5, 3) := by decide +kernel
theorem dX11_nameAsked_101 : decode cX11_nameAsked 101 = .ok (.iconst 3, 1) := by decide +kernel
theorem dX11_nameAsked_102 : decode cX11_nameAsked 102 = .ok (.ireturn, 1) := by decide +kernel
theorem dX11_nameAsked_103 : decode cX11_nameAsked 103 = .ok (.aload_n 0, 1) := by decide +kernel
theorem dX11_nameAsked_104 : decode cX11_nameAsked 104 = .ok (.getfield 27, 3) := by decide +kernel
theorem dX11_nameAsked_107 : decode cX11_nameAsked 107 = .ok (.getfield 192, 3) := by decide +kernel
theorem dX11_nameAsked_110 : decode cX11_nameAsked 110 = .ok (.bipush 60, 2) := by decide +kernel
theorem dX11_nameAsked_112 : decode cX11_nameAsked 112 = .ok (.if_icmp .ge 7, 3) := by decide +kernel
theorem dX11_nameAsked_115 : decode cX11_nameAsked 115 = .ok (.iconst 0, 1) := by decide +kernel
theorem dX11_nameAsked_116 : decode cX11_nameAsked 116 = .ok (.goto 5, 3) := by decide +kernel
theorem dX11_nameAsked_119 : decode cX11_nameAsked 119 = .ok (.bipush 8, 2) := by decide +kernel
theorem dX11_nameAsked_121 : decode cX11_nameAsked 121 = .ok (.ireturn, 1) := by decide +kernel
theorem dX11_nameAsked_122 : decode cX11_nameAsked 122 = .ok (.iload_n 2, 1) := by decide +kernel
theorem dX11_nameAsked_123 : decode cX11_nameAsked 123 = .ok (.iconst (-1), 1) := by decide +kernel
theorem dX11_nameAsked_124 : decode cX11_nameAsked 124 = .ok (.if_icmp .eq 20, 3) := by decide +kernel
theorem dX11_nameAsked_127 : decode cX11_nameAsked 127 = .ok (.aload_n 0, 1) := by decide +kernel
theorem dX11_nameAsked_128 : decode cX11_nameAsked 128 = .ok (.getfield 27, 3) := by decide +kernel
theorem dX11_nameAsked_131 : decode cX11_nameAsked 131 = .ok (.getfield 325, 3) := by decide +kernel
theorem dX11_nameAsked_134 : decode cX11_nameAsked 134 = .ok (.iload_n 2, 1) := by decide +kernel
theorem dX11_nameAsked_135 : decode cX11_nameAsked 135 = .ok (.iaload, 1) := by decide +kernel
theorem dX11_nameAsked_136 : decode cX11_nameAsked 136 = .ok (.iconst (-1), 1) := by decide +kernel
theorem dX11_nameAsked_137 : decode cX11_nameAsked 137 = .ok (.if_icmp .eq 7, 3) := by decide +kernel
theorem dX11_nameAsked_140 : decode cX11_nameAsked 140 = .ok (.iconst 0, 1) := by decide +kernel
theorem dX11_nameAsked_141 : decode cX11_nameAsked 141 = .ok (.goto 4, 3) := by decide +kernel
theorem dX11_nameAsked_144 : decode cX11_nameAsked 144 = .ok (.iconst 3, 1) := by decide +kernel
theorem dX11_nameAsked_145 : decode cX11_nameAsked 145 = .ok (.ireturn, 1) := by decide +kernel
theorem dX11_nameAsked_146 : decode cX11_nameAsked 146 = .ok (.aload_n 0, 1) := by decide +kernel
theorem dX11_nameAsked_147 : decode cX11_nameAsked 147 = .ok (.getfield 27, 3) := by decide +kernel
theorem dX11_nameAsked_150 : decode cX11_nameAsked 150 = .ok (.getfield 208, 3) := by decide +kernel
theorem dX11_nameAsked_153 : decode cX11_nameAsked 153 = .ok (.ifCond .le 7, 3) := by decide +kernel
theorem dX11_nameAsked_156 : decode cX11_nameAsked 156 = .ok (.iconst 0, 1) := by decide +kernel
theorem dX11_nameAsked_157 : decode cX11_nameAsked 157 = .ok (.goto 4, 3) := by decide +kernel
theorem dX11_nameAsked_160 : decode cX11_nameAsked 160 = .ok (.iconst 3, 1) := by decide +kernel
theorem dX11_nameAsked_161 : decode cX11_nameAsked 161 = .ok (.ireturn, 1) := by decide +kernel
theorem dX11_nameAsked_162 : decode cX11_nameAsked 162 = .ok (.iconst 0, 1) := by decide +kernel
theorem dX11_nameAsked_163 : decode cX11_nameAsked 163 = .ok (.ireturn, 1) := by decide +kernel

section
variable {p : Program} {l : Launch} {e : Env} {R : Room} {s : State} {m : MethodId} {args : Array Value} {below : List Frame} {meth : Method} {c : Code} {H : Heap} {locs : List Loc} {Qf : State → Prop}
variable {ls : Array Slot} {D : va_G} {ca : Nat → ClassId} {A : Nat → Prop} {ad : Nat → Nat → Nat} {u : iST}
def v_11_nameAsked (a0 : Int) (Q : Int → iST → Prop) (u : iST) : Prop :=
  rd (u.1 44) (fun v1 => 
  v_0_theoremOf v1 (fun v2 u => 
  v_7_left a0 (fun v3 u => 
  br (v3 = 20) (
    rd (u.1 44) (fun v4 => 
    v_0_functionOf v4 (fun v5 u => 
    br (v5 = (-1)) (
      rd (u.1 0) (fun v6 => 
      br (40 ≤ v6) (
        Q 8 u) (
        Q 0 u))) (
      Q 3 u)) u)) (
  br (v3 = 21) (
    br (v2 = (-1)) (
      rd (u.1 1) (fun v8 => 
      br (60 ≤ v8) (
        Q 8 u) (
        Q 0 u))) (
      Q 3 u)) (
  br (v3 = 22) (
    br (v2 = (-1)) (
      rd (u.1 1) (fun v10 => 
      br (60 ≤ v10) (
        Q 8 u) (
        Q 0 u))) (
      Q 3 u)) (
  br (v3 = 23) (
    br (v2 = (-1)) (
      Q 3 u) (
      bd v2 60 (rd (u.2.1 7 v2) (fun v12 => 
      br (v12 = (-1)) (
        Q 3 u) (
        Q 0 u))))) (
  br (v3 = 24) (
    br (v2 = (-1)) (
      Q 3 u) (
      bd v2 60 (rd (u.2.1 7 v2) (fun v14 => 
      br (v14 = (-1)) (
        Q 3 u) (
        Q 0 u))))) (
  br (v3 = 25) (
    rd (u.1 2) (fun v16 => 
    br (v16 ≤ 0) (
      Q 3 u) (
      Q 0 u))) (
  Q 0 u))))))) u) u)
set_option maxRecDepth 20000 in
set_option maxHeartbeats 4000000 in
theorem f_11_nameAsked_s (X : yX RX11 p m c cX11_nameAsked 3 s args D ca ad A) (hRf : 1 ≤ R.frames) (hRl : 22 ≤ R.locals) {Q : Int → iST → Prop} (hret : ∀ (v : Int) (u : iST) (H : Heap) (locs : List Loc) (ls : Array Slot) (pc : Nat), inR v → Q v u → yW D ca A ad s H locs u → decode cX11_nameAsked pc = .ok (.ireturn, 1) → W p l e R s m args below meth c H locs 0 0 Qf (F0 m pc ls [.int (jI v)])) {a0 : Int} (ra0 : inR a0) (hw : yW D ca A ad s H locs u) (hl : lv_has ls 3 [(0, .ref (ad 0 9)), (1, .int (jI a0))]) (h : v_11_nameAsked a0 Q u) : W p l e R s m args below meth c H locs 0 0 Qf (F0 m 0 ls []) := by
  have hx := X.1.1
  have hb := X.1.2.1
  unfold v_11_nameAsked at h
  refine lv_aload_n hx hb dX11_nameAsked_0 rfl (lv_at hl 0 rfl) ?_
  refine yg_11_27 X hw dX11_nameAsked_1 ?_
  refine lv_aload_n hx hb dX11_nameAsked_4 rfl (lv_at hl 0 rfl) ?_
  refine yg_11_115 X hw dX11_nameAsked_5 h (fun v1 rv1 h => ?_)
  refine ycI (n := 1) (e_0_theoremOf rv1 h) 0 0 (r := (RX0, TX0, 21)) rfl yG_11_319 yD_0_theoremOf X hw rfl yGo_0 (Nat.le_trans (Nat.le_of_ble_eq_true rfl) hRf) (Nat.le_trans (Nat.le_of_ble_eq_true rfl) hRl) rfl hl.1 (Nat.le_of_ble_eq_true rfl) rfl dX11_nameAsked_8 (fun v2 u H locs rv2 h hw => ?_)
  refine lv_istore_n hx hb dX11_nameAsked_11 rfl hl (by decide) rfl (fun ls hl => ?_)
  have hl : lv_has ls 3 [(2, .int (jI v2)), (0, .ref (ad 0 9)), (1, .int (jI a0))] := hl
  refine lv_aload_n hx hb dX11_nameAsked_12 rfl (lv_at hl 1 rfl) ?_
  refine yg_11_14 X hw dX11_nameAsked_13 ?_
  refine lv_iload_n hx hb dX11_nameAsked_16 rfl (lv_at hl 2 rfl) ?_
  refine ycI (n := 1) (e_7_left ra0 h) 7 6 (r := (RX7, TX7, 9)) rfl yG_11_170 yD_7_left X hw rfl yGo_7 (Nat.le_trans (Nat.le_of_ble_eq_true rfl) hRf) (Nat.le_trans (Nat.le_of_ble_eq_true rfl) hRl) rfl hl.1 (Nat.le_of_ble_eq_true rfl) rfl dX11_nameAsked_17 (fun v3 u H locs rv3 h hw => ?_)
  refine br_sp h (fun ek h => ?_) (fun n7 h => ?_)
  · refine k_tabIn (tgt := 60) (off := 40) hx hb dX11_nameAsked_20 ek (by decide) (by decide) rfl rfl ?_
    refine lv_aload_n hx hb dX11_nameAsked_60 rfl (lv_at hl 1 rfl) ?_
    refine yg_11_27 X hw dX11_nameAsked_61 ?_
    refine lv_aload_n hx hb dX11_nameAsked_64 rfl (lv_at hl 1 rfl) ?_
    refine yg_11_115 X hw dX11_nameAsked_65 h (fun v4 rv4 h => ?_)
    refine ycI (n := 1) (e_0_functionOf rv4 h) 0 0 (r := (RX0, TX0, 21)) rfl yG_11_322 yD_0_functionOf X hw rfl yGo_0 (Nat.le_trans (Nat.le_of_ble_eq_true rfl) hRf) (Nat.le_trans (Nat.le_of_ble_eq_true rfl) hRl) rfl hl.1 (Nat.le_of_ble_eq_true rfl) rfl dX11_nameAsked_68 (fun v5 u H locs rv5 h hw => ?_)
    refine lv_iconst hx hb dX11_nameAsked_71 (v := jI (-1)) rfl ?_
    refine k_icmp_eq hx hb rv5 (by decide) dX11_nameAsked_72 (tgt := 77) rfl h (fun h => ?_) (fun h => ?_)
    · refine lv_aload_n hx hb dX11_nameAsked_77 rfl (lv_at hl 1 rfl) ?_
      refine yg_11_27 X hw dX11_nameAsked_78 ?_
      refine yg_11_189 X hw dX11_nameAsked_81 h (fun v6 rv6 h => ?_)
      refine lv_bipush hx hb dX11_nameAsked_84 (v := jI 40) rfl ?_
      refine k_icmp_ge hx hb rv6 (by decide) dX11_nameAsked_86 (tgt := 93) rfl h (fun h => ?_) (fun h => ?_)
      · refine lv_bipush hx hb dX11_nameAsked_93 (v := jI 8) rfl ?_
        exact hret _ _ _ _ _ _ (by decide) h hw dX11_nameAsked_95
      · refine lv_iconst hx hb dX11_nameAsked_89 (v := jI 0) rfl ?_
        refine lv_goto hx hb dX11_nameAsked_90 (tgt := 95) rfl ?_
        exact hret _ _ _ _ _ _ (by decide) h hw dX11_nameAsked_95
    · refine lv_iconst hx hb dX11_nameAsked_75 (v := jI 3) rfl ?_
      exact hret _ _ _ _ _ _ (by decide) h hw dX11_nameAsked_76
  refine br_sp h (fun ek h => ?_) (fun n9 h => ?_)
  · refine k_tabIn (tgt := 96) (off := 76) hx hb dX11_nameAsked_20 ek (by decide) (by decide) rfl rfl ?_
    refine lv_iload_n hx hb dX11_nameAsked_96 rfl (lv_at hl 0 rfl) ?_
    refine lv_iconst hx hb dX11_nameAsked_97 (v := jI (-1)) rfl ?_
    refine k_icmp_eq hx hb rv2 (by decide) dX11_nameAsked_98 (tgt := 103) rfl h (fun h => ?_) (fun h => ?_)
    · refine lv_aload_n hx hb dX11_nameAsked_103 rfl (lv_at hl 1 rfl) ?_
      refine yg_11_27 X hw dX11_nameAsked_104 ?_
      refine yg_11_192 X hw dX11_nameAsked_107 h (fun v8 rv8 h => ?_)
      refine lv_bipush hx hb dX11_nameAsked_110 (v := jI 60) rfl ?_
      refine k_icmp_ge hx hb rv8 (by decide) dX11_nameAsked_112 (tgt := 119) rfl h (fun h => ?_) (fun h => ?_)
      · refine lv_bipush hx hb dX11_nameAsked_119 (v := jI 8) rfl ?_
        exact hret _ _ _ _ _ _ (by decide) h hw dX11_nameAsked_121
      · refine lv_iconst hx hb dX11_nameAsked_115 (v := jI 0) rfl ?_
        refine lv_goto hx hb dX11_nameAsked_116 (tgt := 121) rfl ?_
        exact hret _ _ _ _ _ _ (by decide) h hw dX11_nameAsked_121
    · refine lv_iconst hx hb dX11_nameAsked_101 (v := jI 3) rfl ?_
      exact hret _ _ _ _ _ _ (by decide) h hw dX11_nameAsked_102
  refine br_sp h (fun ek h => ?_) (fun n11 h => ?_)
  · refine k_tabIn (tgt := 96) (off := 76) hx hb dX11_nameAsked_20 ek (by decide) (by decide) rfl rfl ?_
    refine lv_iload_n hx hb dX11_nameAsked_96 rfl (lv_at hl 0 rfl) ?_
    refine lv_iconst hx hb dX11_nameAsked_97 (v := jI (-1)) rfl ?_
    refine k_icmp_eq hx hb rv2 (by decide) dX11_nameAsked_98 (tgt := 103) rfl h (fun h => ?_) (fun h => ?_)
    · refine lv_aload_n hx hb dX11_nameAsked_103 rfl (lv_at hl 1 rfl) ?_
      refine yg_11_27 X hw dX11_nameAsked_104 ?_
      refine yg_11_192 X hw dX11_nameAsked_107 h (fun v10 rv10 h => ?_)
      refine lv_bipush hx hb dX11_nameAsked_110 (v := jI 60) rfl ?_
      refine k_icmp_ge hx hb rv10 (by decide) dX11_nameAsked_112 (tgt := 119) rfl h (fun h => ?_) (fun h => ?_)
      · refine lv_bipush hx hb dX11_nameAsked_119 (v := jI 8) rfl ?_
        exact hret _ _ _ _ _ _ (by decide) h hw dX11_nameAsked_121
      · refine lv_iconst hx hb dX11_nameAsked_115 (v := jI 0) rfl ?_
        refine lv_goto hx hb dX11_nameAsked_116 (tgt := 121) rfl ?_
        exact hret _ _ _ _ _ _ (by decide) h hw dX11_nameAsked_121
    · refine lv_iconst hx hb dX11_nameAsked_101 (v := jI 3) rfl ?_
      exact hret _ _ _ _ _ _ (by decide) h hw dX11_nameAsked_102
  refine br_sp h (fun ek h => ?_) (fun n13 h => ?_)
  · refine k_tabIn (tgt := 122) (off := 102) hx hb dX11_nameAsked_20 ek (by decide) (by decide) rfl rfl ?_
    refine lv_iload_n hx hb dX11_nameAsked_122 rfl (lv_at hl 0 rfl) ?_
    refine lv_iconst hx hb dX11_nameAsked_123 (v := jI (-1)) rfl ?_
    refine k_icmp_eq hx hb rv2 (by decide) dX11_nameAsked_124 (tgt := 144) rfl h (fun h => ?_) (fun h => ?_)
    · refine lv_iconst hx hb dX11_nameAsked_144 (v := jI 3) rfl ?_
      exact hret _ _ _ _ _ _ (by decide) h hw dX11_nameAsked_145
    · refine lv_aload_n hx hb dX11_nameAsked_127 rfl (lv_at hl 1 rfl) ?_
      refine yg_11_27 X hw dX11_nameAsked_128 ?_
      refine yg_11_325 X hw dX11_nameAsked_131 ?_
      refine lv_iload_n hx hb dX11_nameAsked_134 rfl (lv_at hl 0 rfl) ?_
      refine yl_7 X hw rv2 dX11_nameAsked_135 h (fun v12 rv12 h => ?_)
      refine lv_iconst hx hb dX11_nameAsked_136 (v := jI (-1)) rfl ?_
      refine k_icmp_eq hx hb rv12 (by decide) dX11_nameAsked_137 (tgt := 144) rfl h (fun h => ?_) (fun h => ?_)
      · refine lv_iconst hx hb dX11_nameAsked_144 (v := jI 3) rfl ?_
        exact hret _ _ _ _ _ _ (by decide) h hw dX11_nameAsked_145
      · refine lv_iconst hx hb dX11_nameAsked_140 (v := jI 0) rfl ?_
        refine lv_goto hx hb dX11_nameAsked_141 (tgt := 145) rfl ?_
        exact hret _ _ _ _ _ _ (by decide) h hw dX11_nameAsked_145
  refine br_sp h (fun ek h => ?_) (fun n15 h => ?_)
  · refine k_tabIn (tgt := 122) (off := 102) hx hb dX11_nameAsked_20 ek (by decide) (by decide) rfl rfl ?_
    refine lv_iload_n hx hb dX11_nameAsked_122 rfl (lv_at hl 0 rfl) ?_
    refine lv_iconst hx hb dX11_nameAsked_123 (v := jI (-1)) rfl ?_
    refine k_icmp_eq hx hb rv2 (by decide) dX11_nameAsked_124 (tgt := 144) rfl h (fun h => ?_) (fun h => ?_)
    · refine lv_iconst hx hb dX11_nameAsked_144 (v := jI 3) rfl ?_
      exact hret _ _ _ _ _ _ (by decide) h hw dX11_nameAsked_145
    · refine lv_aload_n hx hb dX11_nameAsked_127 rfl (lv_at hl 1 rfl) ?_
      refine yg_11_27 X hw dX11_nameAsked_128 ?_
      refine yg_11_325 X hw dX11_nameAsked_131 ?_
      refine lv_iload_n hx hb dX11_nameAsked_134 rfl (lv_at hl 0 rfl) ?_
      refine yl_7 X hw rv2 dX11_nameAsked_135 h (fun v14 rv14 h => ?_)
      refine lv_iconst hx hb dX11_nameAsked_136 (v := jI (-1)) rfl ?_
      refine k_icmp_eq hx hb rv14 (by decide) dX11_nameAsked_137 (tgt := 144) rfl h (fun h => ?_) (fun h => ?_)
      · refine lv_iconst hx hb dX11_nameAsked_144 (v := jI 3) rfl ?_
        exact hret _ _ _ _ _ _ (by decide) h hw dX11_nameAsked_145
      · refine lv_iconst hx hb dX11_nameAsked_140 (v := jI 0) rfl ?_
        refine lv_goto hx hb dX11_nameAsked_141 (tgt := 145) rfl ?_
        exact hret _ _ _ _ _ _ (by decide) h hw dX11_nameAsked_145
  refine br_sp h (fun ek h => ?_) (fun n17 h => ?_)
  · refine k_tabIn (tgt := 146) (off := 126) hx hb dX11_nameAsked_20 ek (by decide) (by decide) rfl rfl ?_
    refine lv_aload_n hx hb dX11_nameAsked_146 rfl (lv_at hl 1 rfl) ?_
    refine yg_11_27 X hw dX11_nameAsked_147 ?_
    refine yg_11_208 X hw dX11_nameAsked_150 h (fun v16 rv16 h => ?_)
    refine k_if_le hx hb rv16 dX11_nameAsked_153 (tgt := 160) rfl h (fun h => ?_) (fun h => ?_)
    · refine lv_iconst hx hb dX11_nameAsked_160 (v := jI 3) rfl ?_
      exact hret _ _ _ _ _ _ (by decide) h hw dX11_nameAsked_161
    · refine lv_iconst hx hb dX11_nameAsked_156 (v := jI 0) rfl ?_
      refine lv_goto hx hb dX11_nameAsked_157 (tgt := 161) rfl ?_
      exact hret _ _ _ _ _ _ (by decide) h hw dX11_nameAsked_161
  refine k_tabOut (tgt := 162) hx hb rv3 dX11_nameAsked_20 (by omega) rfl ?_
  refine lv_iconst hx hb dX11_nameAsked_162 (v := jI 0) rfl ?_
  exact hret _ _ _ _ _ _ (by decide) h hw dX11_nameAsked_163

end
theorem e_11_nameAsked {l : Launch} {a0 : Int} (ra0 : inR a0) {Q : Int → iST → Prop} {u : iST} (h : v_11_nameAsked a0 Q u) : yMI l yX11_nameAsked (.code yX11_nameAsked cX11_nameAsked 3 (some .int) :: wsN) { frames := 1, cells := 0, slots := 0, locals := 22 } (fun ad => [.ref (ad 0 9), .int (jI a0)]) Q u := yMI_of (own := RX11) rfl (by decide +kernel) (fun _ => Nat.le_of_ble_eq_true rfl) (fun X hRf hRl hret hw hl => f_11_nameAsked_s X hRf hRl hret ra0 hw hl h)

/-! ProofHouse.asked -/
theorem dX11_asked_0 : decode cX11_asked 0 = .ok (.aload_n 0, 1) := by decide +kernel
theorem dX11_asked_1 : decode cX11_asked 1 = .ok (.iload_n 1, 1) := by decide +kernel
theorem dX11_asked_2 : decode cX11_asked 2 = .ok (.invokevirtual 268, 3) := by decide +kernel
theorem dX11_asked_5 : decode cX11_asked 5 = .ok (.ifCond .ne 5, 3) := by decide +kernel
theorem dX11_asked_8 : decode cX11_asked 8 = .ok (.iconst 2, 1) := by decide +kernel
theorem dX11_asked_9 : decode cX11_asked 9 = .ok (.ireturn, 1) := by decide +kernel
theorem dX11_asked_10 : decode cX11_asked 10 = .ok (.aload_n 0, 1) := by decide +kernel
theorem dX11_asked_11 : decode cX11_asked 11 = .ok (.getfield 79, 3) := by decide +kernel
theorem dX11_asked_14 : decode cX11_asked 14 = .ok (.aload_n 0, 1) := by decide +kernel
theorem dX11_asked_15 : decode cX11_asked 15 = .ok (.getfield 124, 3) := by decide +kernel
theorem dX11_asked_18 : decode cX11_asked 18 = .ok (.invokevirtual 272, 3) := by decide +kernel
theorem dX11_asked_21 : decode cX11_asked 21 = .ok (.istore_n 2, 1) := by decide +kernel
theorem dX11_asked_22 : decode cX11_asked 22 = .ok (.iload_n 2, 1) := by decide +kernel
theorem dX11_asked_23 : decode cX11_asked 23 = .ok (.ifCond .ne 11, 3) := by decide +kernel
theorem dX11_asked_26 : decode cX11_asked 26 = .ok (.aload_n 0, 1) := by decide +kernel
theorem dX11_asked_27 : decode cX11_asked 27 = .ok (.iload_n 1, 1) := by decide +kernel
theorem dX11_asked_28 : decode cX11_asked 28 = .ok (.invokevirtual 275, 3) := by decide +kernel
theorem dX11_asked_31 : decode cX11_asked 31 = .ok (.goto 4, 3) := by decide +kernel
theorem dX11_asked_34 : decode cX11_asked 34 = .ok (.iload_n 2, 1) := by decide +kernel
theorem dX11_asked_35 : decode cX11_asked 35 = .ok (.ireturn, 1) := by decide +kernel

section
variable {p : Program} {l : Launch} {e : Env} {R : Room} {s : State} {m : MethodId} {args : Array Value} {below : List Frame} {meth : Method} {c : Code} {H : Heap} {locs : List Loc} {Qf : State → Prop}
variable {ls : Array Slot} {D : va_G} {ca : Nat → ClassId} {A : Nat → Prop} {ad : Nat → Nat → Nat} {u : iST}
def v_11_asked (a0 : Int) (Q : Int → iST → Prop) (u : iST) : Prop :=
  v_11_isAsTold a0 (fun v1 u => 
  br (v1 ≠ 0) (
    rd (u.1 47) (fun v2 => 
    v_8_hintsAsked v2 (fun v3 u => 
    br (v3 ≠ 0) (
      Q v3 u) (
      v_11_nameAsked a0 (fun v4 u => 
      Q v4 u) u)) u)) (
    Q 2 u)) u
set_option maxRecDepth 20000 in
set_option maxHeartbeats 4000000 in
theorem f_11_asked_s (X : yX RX11 p m c cX11_asked 3 s args D ca ad A) (hRf : 6 ≤ R.frames) (hRl : 151 ≤ R.locals) {Q : Int → iST → Prop} (hret : ∀ (v : Int) (u : iST) (H : Heap) (locs : List Loc) (ls : Array Slot) (pc : Nat), inR v → Q v u → yW D ca A ad s H locs u → decode cX11_asked pc = .ok (.ireturn, 1) → W p l e R s m args below meth c H locs 0 0 Qf (F0 m pc ls [.int (jI v)])) {a0 : Int} (ra0 : inR a0) (hw : yW D ca A ad s H locs u) (hl : lv_has ls 3 [(0, .ref (ad 0 9)), (1, .int (jI a0))]) (h : v_11_asked a0 Q u) : W p l e R s m args below meth c H locs 0 0 Qf (F0 m 0 ls []) := by
  have hx := X.1.1
  have hb := X.1.2.1
  unfold v_11_asked at h
  refine lv_aload_n hx hb dX11_asked_0 rfl (lv_at hl 0 rfl) ?_
  refine lv_iload_n hx hb dX11_asked_1 rfl (lv_at hl 1 rfl) ?_
  refine ycI (n := 1) (e_11_isAsTold ra0 h) 11 9 (r := (RX11, TX11, 21)) rfl yG_11_268 yD_11_isAsTold X hw rfl yGo_11 (Nat.le_trans (Nat.le_of_ble_eq_true rfl) hRf) (Nat.le_trans (Nat.le_of_ble_eq_true rfl) hRl) rfl hl.1 (Nat.le_of_ble_eq_true rfl) rfl dX11_asked_2 (fun v1 u H locs rv1 h hw => ?_)
  refine k_if_ne hx hb rv1 dX11_asked_5 (tgt := 10) rfl h (fun h => ?_) (fun h => ?_)
  · refine lv_aload_n hx hb dX11_asked_10 rfl (lv_at hl 0 rfl) ?_
    refine yg_11_79 X hw dX11_asked_11 ?_
    refine lv_aload_n hx hb dX11_asked_14 rfl (lv_at hl 0 rfl) ?_
    refine yg_11_124 X hw dX11_asked_15 h (fun v2 rv2 h => ?_)
    refine ycI (n := 1) (e_8_hintsAsked rv2 h) 8 7 (r := (RX8, TX8, 11)) rfl yG_11_272 yD_8_hintsAsked X hw rfl yGo_8 (Nat.le_trans (Nat.le_of_ble_eq_true rfl) hRf) (Nat.le_trans (Nat.le_of_ble_eq_true rfl) hRl) rfl hl.1 (Nat.le_of_ble_eq_true rfl) rfl dX11_asked_18 (fun v3 u H locs rv3 h hw => ?_)
    refine lv_istore_n hx hb dX11_asked_21 rfl hl (by decide) rfl (fun ls hl => ?_)
    have hl : lv_has ls 3 [(2, .int (jI v3)), (0, .ref (ad 0 9)), (1, .int (jI a0))] := hl
    refine lv_iload_n hx hb dX11_asked_22 rfl (lv_at hl 0 rfl) ?_
    refine k_if_ne hx hb rv3 dX11_asked_23 (tgt := 34) rfl h (fun h => ?_) (fun h => ?_)
    · refine lv_iload_n hx hb dX11_asked_34 rfl (lv_at hl 0 rfl) ?_
      exact hret _ _ _ _ _ _ rv3 h hw dX11_asked_35
    · refine lv_aload_n hx hb dX11_asked_26 rfl (lv_at hl 1 rfl) ?_
      refine lv_iload_n hx hb dX11_asked_27 rfl (lv_at hl 2 rfl) ?_
      refine ycI (n := 1) (e_11_nameAsked ra0 h) 11 9 (r := (RX11, TX11, 21)) rfl yG_11_275 yD_11_nameAsked X hw rfl yGo_11 (Nat.le_trans (Nat.le_of_ble_eq_true rfl) hRf) (Nat.le_trans (Nat.le_of_ble_eq_true rfl) hRl) rfl hl.1 (Nat.le_of_ble_eq_true rfl) rfl dX11_asked_28 (fun v4 u H locs rv4 h hw => ?_)
      refine lv_goto hx hb dX11_asked_31 (tgt := 35) rfl ?_
      exact hret _ _ _ _ _ _ rv4 h hw dX11_asked_35
  · refine lv_iconst hx hb dX11_asked_8 (v := jI 2) rfl ?_
    exact hret _ _ _ _ _ _ (by decide) h hw dX11_asked_9

end
theorem e_11_asked {l : Launch} {a0 : Int} (ra0 : inR a0) {Q : Int → iST → Prop} {u : iST} (h : v_11_asked a0 Q u) : yMI l yX11_asked (.code yX11_asked cX11_asked 3 (some .int) :: wsN) { frames := 6, cells := 0, slots := 0, locals := 151 } (fun ad => [.ref (ad 0 9), .int (jI a0)]) Q u := yMI_of (own := RX11) rfl (by decide +kernel) (fun _ => Nat.le_of_ble_eq_true rfl) (fun X hRf hRl hret hw hl => f_11_asked_s X hRf hRl hret ra0 hw hl h)

/-! ProofHouse.showValue -/
theorem dX11_showValue_0 : decode cX11_showValue 0 = .ok (.iload_n 1, 1) := by decide +kernel
theorem dX11_showValue_1 : decode cX11_showValue 1 = .ok (.iconst (-1), 1) := by decide +kernel
theorem dX11_showValue_2 : decode cX11_showValue 2 = .ok (.if_icmp .ne 20, 3) := by decide +kernel
theorem dX11_showValue_5 : decode cX11_showValue 5 = .ok (.aload_n 0, 1) := by decide +kernel
theorem dX11_showValue_6 : decode cX11_showValue 6 = .ok (.getfield 14, 3) := by decide +kernel
theorem dX11_showValue_9 : decode cX11_showValue 9 = .ok (.aload_n 0, 1) := by decide +kernel
theorem dX11_showValue_10 : decode cX11_showValue 10 = .ok (.getfield 61, 3) := by decide +kernel
theorem dX11_showValue_13 : decode cX11_showValue 13 = .ok (.getfield 360, 3) := by decide +kernel
theorem dX11_showValue_16 : decode cX11_showValue 16 = .ok (.invokevirtual 363, 3) := by decide +kernel
theorem dX11_showValue_19 : decode cX11_showValue 19 = .ok (.goto 11, 3) := by decide +kernel
theorem dX11_showValue_22 : decode cX11_showValue 22 = .ok (.aload_n 0, 1) := by decide +kernel
theorem dX11_showValue_23 : decode cX11_showValue 23 = .ok (.getfield 45, 3) := by decide +kernel
theorem dX11_showValue_26 : decode cX11_showValue 26 = .ok (.iload_n 1, 1) := by decide +kernel
theorem dX11_showValue_27 : decode cX11_showValue 27 = .ok (.invokevirtual 246, 3) := by decide +kernel
theorem dX11_showValue_30 : decode cX11_showValue 30 = .ok (.return_, 1) := by decide +kernel

section
variable {p : Program} {l : Launch} {e : Env} {R : Room} {s : State} {m : MethodId} {args : Array Value} {below : List Frame} {meth : Method} {c : Code} {H : Heap} {locs : List Loc} {Qf : State → Prop}
variable {ls : Array Slot} {D : va_G} {ca : Nat → ClassId} {A : Nat → Prop} {ad : Nat → Nat → Nat} {u : iST}
def v_11_showValue (a0 : Int) (Q : iST → Prop) (u : iST) : Prop :=
  br (a0 ≠ (-1)) (
    v_9_write 0 a0 (fun u => 
    Q u) u) (
    rd (u.1 9) (fun v2 => 
    v_7_blame v2 (fun u => 
    Q u) u))
set_option maxRecDepth 20000 in
set_option maxHeartbeats 4000000 in
theorem f_11_showValue_s (X : yX RX11 p m c cX11_showValue 2 s args D ca ad A) (hRf : 8 ≤ R.frames) (hRl : 254 ≤ R.locals) {Q : iST → Prop} (hret : ∀ (u : iST) (H : Heap) (locs : List Loc) (ls : Array Slot) (pc : Nat), Q u → yW D ca A ad s H locs u → decode cX11_showValue pc = .ok (.return_, 1) → W p l e R s m args below meth c H locs 0 0 Qf (F0 m pc ls [])) {a0 : Int} (ra0 : inR a0) (hw : yW D ca A ad s H locs u) (hl : lv_has ls 2 [(0, .ref (ad 0 9)), (1, .int (jI a0))]) (h : v_11_showValue a0 Q u) : W p l e R s m args below meth c H locs 0 0 Qf (F0 m 0 ls []) := by
  have hx := X.1.1
  have hb := X.1.2.1
  unfold v_11_showValue at h
  refine lv_iload_n hx hb dX11_showValue_0 rfl (lv_at hl 1 rfl) ?_
  refine lv_iconst hx hb dX11_showValue_1 (v := jI (-1)) rfl ?_
  refine k_icmp_ne hx hb ra0 (by decide) dX11_showValue_2 (tgt := 22) rfl h (fun h => ?_) (fun h => ?_)
  · refine lv_aload_n hx hb dX11_showValue_22 rfl (lv_at hl 0 rfl) ?_
    refine yg_11_45 X hw dX11_showValue_23 ?_
    refine lv_iload_n hx hb dX11_showValue_26 rfl (lv_at hl 1 rfl) ?_
    refine ycV (n := 1) (e_9_write (by decide) ra0 h) 9 (2041 + (0 : Int).toNat) (r := (RX9, TX9, 4)) rfl yG_11_246 yD_9_write X hw rfl (yGf_scribe (toNat_lt (by decide))) (Nat.le_trans (Nat.le_of_ble_eq_true rfl) hRf) (Nat.le_trans (Nat.le_of_ble_eq_true rfl) hRl) rfl hl.1 (Nat.le_of_ble_eq_true rfl) rfl dX11_showValue_27 (fun u H locs h hw => ?_)
    exact hret _ _ _ _ _ h hw dX11_showValue_30
  · refine lv_aload_n hx hb dX11_showValue_5 rfl (lv_at hl 0 rfl) ?_
    refine yg_11_14 X hw dX11_showValue_6 ?_
    refine lv_aload_n hx hb dX11_showValue_9 rfl (lv_at hl 0 rfl) ?_
    refine yg_11_61 X hw dX11_showValue_10 ?_
    refine yg_11_360 X hw dX11_showValue_13 h (fun v2 rv2 h => ?_)
    refine ycV (n := 1) (e_7_blame rv2 h) 7 6 (r := (RX7, TX7, 9)) rfl yG_11_363 yD_7_blame X hw rfl yGo_7 (Nat.le_trans (Nat.le_of_ble_eq_true rfl) hRf) (Nat.le_trans (Nat.le_of_ble_eq_true rfl) hRl) rfl hl.1 (Nat.le_of_ble_eq_true rfl) rfl dX11_showValue_16 (fun u H locs h hw => ?_)
    refine lv_goto hx hb dX11_showValue_19 (tgt := 30) rfl ?_
    exact hret _ _ _ _ _ h hw dX11_showValue_30

end
theorem e_11_showValue {l : Launch} {a0 : Int} (ra0 : inR a0) {Q : iST → Prop} {u : iST} (h : v_11_showValue a0 Q u) : yMV l yX11_showValue (.code yX11_showValue cX11_showValue 2 none :: wsN) { frames := 8, cells := 0, slots := 0, locals := 254 } (fun ad => [.ref (ad 0 9), .int (jI a0)]) Q u := yMV_of (own := RX11) rfl (by decide +kernel) (fun _ => Nat.le_of_ble_eq_true rfl) (fun X hRf hRl hret hw hl => f_11_showValue_s X hRf hRl hret ra0 hw hl h)

/-! ProofHouse.showTerm -/
theorem dX11_showTerm_0 : decode cX11_showTerm 0 = .ok (.iload_n 1, 1) := by decide +kernel
theorem dX11_showTerm_1 : decode cX11_showTerm 1 = .ok (.iconst (-1), 1) := by decide +kernel
theorem dX11_showTerm_2 : decode cX11_showTerm 2 = .ok (.if_icmp .eq 11, 3) := by decide +kernel
theorem dX11_showTerm_5 : decode cX11_showTerm 5 = .ok (.aload_n 0, 1) := by decide +kernel
theorem dX11_showTerm_6 : decode cX11_showTerm 6 = .ok (.getfield 45, 3) := by decide +kernel
theorem dX11_showTerm_9 : decode cX11_showTerm 9 = .ok (.iload_n 1, 1) := by decide +kernel
theorem dX11_showTerm_10 : decode cX11_showTerm 10 = .ok (.invokevirtual 246, 3) := by decide +kernel
theorem dX11_showTerm_13 : decode cX11_showTerm 13 = .ok (.return_, 1) := by decide +kernel

section
variable {p : Program} {l : Launch} {e : Env} {R : Room} {s : State} {m : MethodId} {args : Array Value} {below : List Frame} {meth : Method} {c : Code} {H : Heap} {locs : List Loc} {Qf : State → Prop}
variable {ls : Array Slot} {D : va_G} {ca : Nat → ClassId} {A : Nat → Prop} {ad : Nat → Nat → Nat} {u : iST}
def v_11_showTerm (a0 : Int) (Q : iST → Prop) (u : iST) : Prop :=
  br (a0 = (-1)) (
    Q u) (
    v_9_write 0 a0 (fun u => 
    Q u) u)
set_option maxRecDepth 20000 in
set_option maxHeartbeats 4000000 in
theorem f_11_showTerm_s (X : yX RX11 p m c cX11_showTerm 2 s args D ca ad A) (hRf : 8 ≤ R.frames) (hRl : 254 ≤ R.locals) {Q : iST → Prop} (hret : ∀ (u : iST) (H : Heap) (locs : List Loc) (ls : Array Slot) (pc : Nat), Q u → yW D ca A ad s H locs u → decode cX11_showTerm pc = .ok (.return_, 1) → W p l e R s m args below meth c H locs 0 0 Qf (F0 m pc ls [])) {a0 : Int} (ra0 : inR a0) (hw : yW D ca A ad s H locs u) (hl : lv_has ls 2 [(0, .ref (ad 0 9)), (1, .int (jI a0))]) (h : v_11_showTerm a0 Q u) : W p l e R s m args below meth c H locs 0 0 Qf (F0 m 0 ls []) := by
  have hx := X.1.1
  have hb := X.1.2.1
  unfold v_11_showTerm at h
  refine lv_iload_n hx hb dX11_showTerm_0 rfl (lv_at hl 1 rfl) ?_
  refine lv_iconst hx hb dX11_showTerm_1 (v := jI (-1)) rfl ?_
  refine k_icmp_eq hx hb ra0 (by decide) dX11_showTerm_2 (tgt := 13) rfl h (fun h => ?_) (fun h => ?_)
  · exact hret _ _ _ _ _ h hw dX11_showTerm_13
  · refine lv_aload_n hx hb dX11_showTerm_5 rfl (lv_at hl 0 rfl) ?_
    refine yg_11_45 X hw dX11_showTerm_6 ?_
    refine lv_iload_n hx hb dX11_showTerm_9 rfl (lv_at hl 1 rfl) ?_
    refine ycV (n := 1) (e_9_write (by decide) ra0 h) 9 (2041 + (0 : Int).toNat) (r := (RX9, TX9, 4)) rfl yG_11_246 yD_9_write X hw rfl (yGf_scribe (toNat_lt (by decide))) (Nat.le_trans (Nat.le_of_ble_eq_true rfl) hRf) (Nat.le_trans (Nat.le_of_ble_eq_true rfl) hRl) rfl hl.1 (Nat.le_of_ble_eq_true rfl) rfl dX11_showTerm_10 (fun u H locs h hw => ?_)
    exact hret _ _ _ _ _ h hw dX11_showTerm_13

end
theorem e_11_showTerm {l : Launch} {a0 : Int} (ra0 : inR a0) {Q : iST → Prop} {u : iST} (h : v_11_showTerm a0 Q u) : yMV l yX11_showTerm (.code yX11_showTerm cX11_showTerm 2 none :: wsN) { frames := 8, cells := 0, slots := 0, locals := 254 } (fun ad => [.ref (ad 0 9), .int (jI a0)]) Q u := yMV_of (own := RX11) rfl (by decide +kernel) (fun _ => Nat.le_of_ble_eq_true rfl) (fun X hRf hRl hret hw hl => f_11_showTerm_s X hRf hRl hret ra0 hw hl h)

/-! ProofHouse.prepare -/
theorem dX11_prepare_0 : decode cX11_prepare 0 = .ok (.aload_n 0, 1) := by decide +kernel
theorem dX11_prepare_1 : decode cX11_prepare 1 = .ok (.getfield 27, 3) := by decide +kernel
theorem dX11_prepare_4 : decode cX11_prepare 4 = .ok (.aload_n 0, 1) := by decide +kernel
theorem dX11_prepare_5 : decode cX11_prepare 5 = .ok (.getfield 115, 3) := by decide +kernel
theorem dX11_prepare_8 : decode cX11_prepare 8 = .ok (.invokevirtual 319, 3) := by decide +kernel
theorem dX11_prepare_11 : decode cX11_prepare 11 = .ok (.istore_n 2, 1) := by decide +kernel
theorem dX11_prepare_12 : decode cX11_prepare 12 = .ok (.aload_n 0, 1) := by decide +kernel
theorem dX11_prepare_13 : decode cX11_prepare 13 = .ok (.getfield 70, 3) := by decide +kernel
theorem dX11_prepare_16 : decode cX11_prepare 16 = .ok (.invokevirtual 328, 3) := by decide +kernel
theorem dX11_prepare_19 : decode cX11_prepare 19 = .ok (.aload_n 0, 1) := by decide +kernel
theorem dX11_prepare_20 : decode cX11_prepare 20 = .ok (.getfield 14, 3) := by decide +kernel
theorem dX11_prepare_23 : decode cX11_prepare 23 = .ok (.iload_n 1, 1) := by decide +kernel
theorem dX11_prepare_24 : decode cX11_prepare 24 = .ok (.invokevirtual 170, 3) := by decide +kernel
theorem dX11_prepare_27 : decode cX11_prepare 27 = .ok (.tableswitch 210 17 25 #[49, 69, 89, 122, 89, 210, 165, 165, 200], 49) := by decide +kernel
theorem dX11_prepare_76 : decode cX11_prepare 76 = .ok (.aload_n 0, 1) := by decide +kernel
theorem dX11_prepare_77 : decode cX11_prepare 77 = .ok (.aload_n 0, 1) := by decide +kernel
theorem dX11_prepare_78 : decode cX11_prepare 78 = .ok (.getfield 61, 3) := by decide +kernel
theorem dX11_prepare_81 : decode cX11_prepare 81 = .ok (.aload_n 0, 1) := by decide +kernel
theorem dX11_prepare_82 : decode cX11_prepare 82 = .ok (.getfield 118, 3) := by decide +kernel
theorem dX11_prepare_85 : decode cX11_prepare 85 = .ok (.ldc 249, 2) := by decide +kernel
theorem dX11_prepare_87 : decode cX11_prepare 87 = .ok (.invokevirtual 329, 3) := by decide +kernel
theorem dX11_prepare_90 : decode cX11_prepare 90 = .ok (.invokevirtual 332, 3) := by decide +kernel
theorem dX11_prepare_93 : decode cX11_prepare 93 = .ok (.goto 144, 3) := by decide +kernel
theorem dX11_prepare_96 : decode cX11_prepare 96 = .ok (.aload_n 0, 1) := by decide +kernel
theorem dX11_prepare_97 : decode cX11_prepare 97 = .ok (.aload_n 0, 1) := by decide +kernel
theorem dX11_prepare_98 : decode cX11_prepare 98 = .ok (.getfield 70, 3) := by decide +kernel
theorem dX11_prepare_101 : decode cX11_prepare 101 = .ok (.aload_n 0, 1) := by decide +kernel
theorem dX11_prepare_102 : decode cX11_prepare 102 = .ok (.getfield 118, 3) := by decide +kernel
theorem dX11_prepare_105 : decode cX11_prepare 105 = .ok (.iconst 0, 1) := by decide +kernel
theorem dX11_prepare_106 : decode cX11_prepare 106 = .ok (.iconst 0, 1) := by decide +kernel
theorem dX11_prepare_107 : decode cX11_prepare 107 = .ok (.invokevirtual 335, 3) := by decide +kernel
theorem dX11_prepare_110 : decode cX11_prepare 110 = .ok (.invokevirtual 339, 3) := by decide +kernel
theorem dX11_prepare_113 : decode cX11_prepare 113 = .ok (.goto 124, 3) := by decide +kernel
theorem dX11_prepare_116 : decode cX11_prepare 116 = .ok (.aload_n 0, 1) := by decide +kernel
theorem dX11_prepare_117 : decode cX11_prepare 117 = .ok (.getfield 79, 3) := by decide +kernel
theorem dX11_prepare_120 : decode cX11_prepare 120 = .ok (.aload_n 0, 1) := by decide +kernel
theorem dX11_prepare_121 : decode cX11_prepare 121 = .ok (.getfield 124, 3) := by decide +kernel
theorem dX11_prepare_124 : decode cX11_prepare 124 = .ok (.invokevirtual 342, 3) := by decide +kernel
theorem dX11_prepare_127 : decode cX11_prepare 127 = .ok (.aload_n 0, 1) := by decide +kernel
theorem dX11_prepare_128 : decode cX11_prepare 128 = .ok (.getfield 79, 3) := by decide +kernel
theorem dX11_prepare_131 : decode cX11_prepare 131 = .ok (.aload_n 0, 1) := by decide +kernel
theorem dX11_prepare_132 : decode cX11_prepare 132 = .ok (.getfield 88, 3) := by decide +kernel
theorem dX11_prepare_135 : decode cX11_prepare 135 = .ok (.aload_n 0, 1) := by decide +kernel
theorem dX11_prepare_136 : decode cX11_prepare 136 = .ok (.getfield 118, 3) := by decide +kernel
theorem dX11_prepare_139 : decode cX11_prepare 139 = .ok (.aload_n 0, 1) := by decide +kernel
theorem dX11_prepare_140 : decode cX11_prepare 140 = .ok (.getfield 124, 3) := by decide +kernel
theorem dX11_prepare_143 : decode cX11_prepare 143 = .ok (.invokevirtual 345, 3) := by decide +kernel
theorem dX11_prepare_146 : decode cX11_prepare 146 = .ok (.goto 91, 3) := by decide +kernel
theorem dX11_prepare_149 : decode cX11_prepare 149 = .ok (.aload_n 0, 1) := by decide +kernel
theorem dX11_prepare_150 : decode cX11_prepare 150 = .ok (.getfield 121, 3) := by decide +kernel
theorem dX11_prepare_153 : decode cX11_prepare 153 = .ok (.iconst (-1), 1) := by decide +kernel
theorem dX11_prepare_154 : decode cX11_prepare 154 = .ok (.if_icmp .eq 83, 3) := by decide +kernel
theorem dX11_prepare_157 : decode cX11_prepare 157 = .ok (.aload_n 0, 1) := by decide +kernel
theorem dX11_prepare_158 : decode cX11_prepare 158 = .ok (.getfield 79, 3) := by decide +kernel
theorem dX11_prepare_161 : decode cX11_prepare 161 = .ok (.aload_n 0, 1) := by decide +kernel
theorem dX11_prepare_162 : decode cX11_prepare 162 = .ok (.getfield 88, 3) := by decide +kernel
theorem dX11_prepare_165 : decode cX11_prepare 165 = .ok (.aload_n 0, 1) := by decide +kernel
theorem dX11_prepare_166 : decode cX11_prepare 166 = .ok (.getfield 115, 3) := by decide +kernel
theorem dX11_prepare_169 : decode cX11_prepare 169 = .ok (.aload_n 0, 1) := by decide +kernel
theorem dX11_prepare_170 : decode cX11_prepare 170 = .ok (.getfield 14, 3) := by decide +kernel
theorem dX11_prepare_173 : decode cX11_prepare 173 = .ok (.iload_n 1, 1) := by decide +kernel
theorem dX11_prepare_174 : decode cX11_prepare 174 = .ok (.iconst 2, 1) := by decide +kernel
theorem dX11_prepare_175 : decode cX11_prepare 175 = .ok (.invokevirtual 173, 3) := by decide +kernel
theorem dX11_prepare_178 : decode cX11_prepare 178 = .ok (.aload_n 0, 1) := by decide +kernel
theorem dX11_prepare_179 : decode cX11_prepare 179 = .ok (.getfield 118, 3) := by decide +kernel
theorem dX11_prepare_182 : decode cX11_prepare 182 = .ok (.aload_n 0, 1) := by decide +kernel
theorem dX11_prepare_183 : decode cX11_prepare 183 = .ok (.getfield 121, 3) := by decide +kernel
theorem dX11_prepare_186 : decode cX11_prepare 186 = .ok (.invokevirtual 349, 3) := by decide +kernel
theorem dX11_prepare_189 : decode cX11_prepare 189 = .ok (.goto 48, 3) := by decide +kernel
theorem dX11_prepare_192 : decode cX11_prepare 192 = .ok (.iload_n 2, 1) := by decide +kernel
theorem dX11_prepare_193 : decode cX11_prepare 193 = .ok (.iconst (-1), 1) := by decide +kernel
theorem dX11_prepare_194 : decode cX11_prepare 194 = .ok (.if_icmp .eq 43, 3) := by decide +kernel
theorem dX11_prepare_197 : decode cX11_prepare 197 = .ok (.aload_n 0, 1) := by decide +kernel
theorem dX11_prepare_198 : decode cX11_prepare 198 = .ok (.getfield 27, 3) := by decide +kernel
theorem dX11_prepare_201 : decode cX11_prepare 201 = .ok (.getfield 353, 3) := by decide +kernel
theorem dX11_prepare_204 : decode cX11_prepare 204 = .ok (.iload_n 2, 1) := by decide +kernel
theorem dX11_prepare_205 : decode cX11_prepare 205 = .ok (.aload_n 0, 1) := by decide +kernel
theorem dX11_prepare_206 : decode cX11_prepare 206 = .ok (.getfield 14, 3) := by decide +kernel
theorem dX11_prepare_209 : decode cX11_prepare 209 = .ok (.iload_n 1, 1) := by decide +kernel
theorem dX11_prepare_210 : decode cX11_prepare 210 = .ok (.invokevirtual 170, 3) := by decide +kernel
theorem dX11_prepare_213 : decode cX11_prepare 213 = .ok (.bipush 23, 2) := by decide +kernel
theorem dX11_prepare_215 : decode cX11_prepare 215 = .ok (.if_icmp .ne 7, 3) := by decide +kernel
theorem dX11_prepare_218 : decode cX11_prepare 218 = .ok (.iconst 1, 1) := by decide +kernel
theorem dX11_prepare_219 : decode cX11_prepare 219 = .ok (.goto 4, 3) := by decide +kernel
theorem dX11_prepare_222 : decode cX11_prepare 222 = .ok (.iconst 0, 1) := by decide +kernel
theorem dX11_prepare_223 : decode cX11_prepare 223 = .ok (.bastore, 1) := by decide +kernel
theorem dX11_prepare_224 : decode cX11_prepare 224 = .ok (.goto 13, 3) := by decide +kernel
theorem dX11_prepare_227 : decode cX11_prepare 227 = .ok (.aload_n 0, 1) := by decide +kernel
theorem dX11_prepare_228 : decode cX11_prepare 228 = .ok (.getfield 27, 3) := by decide +kernel
theorem dX11_prepare_231 : decode cX11_prepare 231 = .ok (.invokevirtual 357, 3) := by decide +kernel
theorem dX11_prepare_234 : decode cX11_prepare 234 = .ok (.goto 3, 3) := by decide +kernel
theorem dX11_prepare_237 : decode cX11_prepare 237 = .ok (.return_, 1) := by decide +kernel

section
variable {p : Program} {l : Launch} {e : Env} {R : Room} {s : State} {m : MethodId} {args : Array Value} {below : List Frame} {meth : Method} {c : Code} {H : Heap} {locs : List Loc} {Qf : State → Prop}
variable {ls : Array Slot} {D : va_G} {ca : Nat → ClassId} {A : Nat → Prop} {ad : Nat → Nat → Nat} {u : iST}
def v_11_prepare (a0 : Int) (Q : iST → Prop) (u : iST) : Prop :=
  rd (u.1 44) (fun v1 => 
  v_0_theoremOf v1 (fun v2 u => 
  v_6_begin (fun u => 
  v_7_left a0 (fun v4 u => 
  br (v4 = 17) (
    rd (u.1 45) (fun v5 => 
    v_2_evaluated v5 1000000 (fun v6 u => 
    v_11_showValue v6 (fun u => 
    Q u) u) u)) (
  br (v4 = 18) (
    rd (u.1 45) (fun v9 => 
    v_6_rewritten v9 0 0 (fun v10 u => 
    v_11_showTerm v10 (fun u => 
    Q u) u) u)) (
  br (v4 = 19) (
    rd (u.1 47) (fun v13 => 
    v_8_mute v13 (fun u => 
    rd (u.1 45) (fun v15 => 
    rd (u.1 47) (fun v16 => 
    v_8_addTheoremClauses v15 v16 (fun u => 
    Q u) u))) u)) (
  br (v4 = 20) (
    rd (u.1 46) (fun v19 => 
    br (v19 = (-1)) (
      Q u) (
      rd (u.1 44) (fun v20 => 
      v_7_item a0 2 (fun v21 u => 
      rd (u.1 45) (fun v22 => 
      rd (u.1 46) (fun v23 => 
      v_8_addMeasureClauses v20 v21 v22 v23 (fun u => 
      Q u) u))) u)))) (
  br (v4 = 21) (
    rd (u.1 47) (fun v26 => 
    v_8_mute v26 (fun u => 
    rd (u.1 45) (fun v28 => 
    rd (u.1 47) (fun v29 => 
    v_8_addTheoremClauses v28 v29 (fun u => 
    Q u) u))) u)) (
  br (v4 = 22) (
    Q u) (
  br (v4 = 23) (
    br (v2 = (-1)) (
      Q u) (
      v_7_left a0 (fun v33 u => 
      br (v33 ≠ 23) (
        zt 0 (bd v2 60 (sw (iA u 12 v2 0) (fun u => 
        Q u)))) (
        zt 1 (bd v2 60 (sw (iA u 12 v2 1) (fun u => 
        Q u))))) u)) (
  br (v4 = 24) (
    br (v2 = (-1)) (
      Q u) (
      v_7_left a0 (fun v35 u => 
      br (v35 ≠ 23) (
        zt 0 (bd v2 60 (sw (iA u 12 v2 0) (fun u => 
        Q u)))) (
        zt 1 (bd v2 60 (sw (iA u 12 v2 1) (fun u => 
        Q u))))) u)) (
  br (v4 = 25) (
    v_0_takeBack (fun u => 
    Q u) u) (
  Q u)))))))))) u) u) u)
set_option maxRecDepth 20000 in
set_option maxHeartbeats 4000000 in
theorem f_11_prepare_s (X : yX RX11 p m c cX11_prepare 3 s args D ca ad A) (hRf : 10 ≤ R.frames) (hRl : 303 ≤ R.locals) {Q : iST → Prop} (hret : ∀ (u : iST) (H : Heap) (locs : List Loc) (ls : Array Slot) (pc : Nat), Q u → yW D ca A ad s H locs u → decode cX11_prepare pc = .ok (.return_, 1) → W p l e R s m args below meth c H locs 0 0 Qf (F0 m pc ls [])) {a0 : Int} (ra0 : inR a0) (hw : yW D ca A ad s H locs u) (hl : lv_has ls 3 [(0, .ref (ad 0 9)), (1, .int (jI a0))]) (h : v_11_prepare a0 Q u) : W p l e R s m args below meth c H locs 0 0 Qf (F0 m 0 ls []) := by
  have hx := X.1.1
  have hb := X.1.2.1
  unfold v_11_prepare at h
  refine lv_aload_n hx hb dX11_prepare_0 rfl (lv_at hl 0 rfl) ?_
  refine yg_11_27 X hw dX11_prepare_1 ?_
  refine lv_aload_n hx hb dX11_prepare_4 rfl (lv_at hl 0 rfl) ?_
  refine yg_11_115 X hw dX11_prepare_5 h (fun v1 rv1 h => ?_)
  refine ycI (n := 1) (e_0_theoremOf rv1 h) 0 0 (r := (RX0, TX0, 21)) rfl yG_11_319 yD_0_theoremOf X hw rfl yGo_0 (Nat.le_trans (Nat.le_of_ble_eq_true rfl) hRf) (Nat.le_trans (Nat.le_of_ble_eq_true rfl) hRl) rfl hl.1 (Nat.le_of_ble_eq_true rfl) rfl dX11_prepare_8 (fun v2 u H locs rv2 h hw => ?_)
  refine lv_istore_n hx hb dX11_prepare_11 rfl hl (by decide) rfl (fun ls hl => ?_)
  have hl : lv_has ls 3 [(2, .int (jI v2)), (0, .ref (ad 0 9)), (1, .int (jI a0))] := hl
  refine lv_aload_n hx hb dX11_prepare_12 rfl (lv_at hl 1 rfl) ?_
  refine yg_11_70 X hw dX11_prepare_13 ?_
  refine ycV (n := 0) (e_6_begin h) 6 5 (r := (RX6, TX6, 14)) rfl yG_11_328 yD_6_begin X hw rfl yGo_6 (Nat.le_trans (Nat.le_of_ble_eq_true rfl) hRf) (Nat.le_trans (Nat.le_of_ble_eq_true rfl) hRl) rfl hl.1 (Nat.le_of_ble_eq_true rfl) rfl dX11_prepare_16 (fun u H locs h hw => ?_)
  refine lv_aload_n hx hb dX11_prepare_19 rfl (lv_at hl 1 rfl) ?_
  refine yg_11_14 X hw dX11_prepare_20 ?_
  refine lv_iload_n hx hb dX11_prepare_23 rfl (lv_at hl 2 rfl) ?_
  refine ycI (n := 1) (e_7_left ra0 h) 7 6 (r := (RX7, TX7, 9)) rfl yG_11_170 yD_7_left X hw rfl yGo_7 (Nat.le_trans (Nat.le_of_ble_eq_true rfl) hRf) (Nat.le_trans (Nat.le_of_ble_eq_true rfl) hRl) rfl hl.1 (Nat.le_of_ble_eq_true rfl) rfl dX11_prepare_24 (fun v4 u H locs rv4 h hw => ?_)
  refine br_sp h (fun ek h => ?_) (fun n8 h => ?_)
  · refine k_tabIn (tgt := 76) (off := 49) hx hb dX11_prepare_27 ek (by decide) (by decide) rfl rfl ?_
    refine lv_aload_n hx hb dX11_prepare_76 rfl (lv_at hl 1 rfl) ?_
    refine lv_aload_n hx hb dX11_prepare_77 rfl (lv_at hl 1 rfl) ?_
    refine yg_11_61 X hw dX11_prepare_78 ?_
    refine lv_aload_n hx hb dX11_prepare_81 rfl (lv_at hl 1 rfl) ?_
    refine yg_11_118 X hw dX11_prepare_82 h (fun v5 rv5 h => ?_)
    refine yld 249 yK_11_249 X dX11_prepare_85 ?_
    refine ycI (n := 2) (e_2_evaluated rv5 (by decide) h) 2 1 (r := (RX2, TX2, 15)) rfl yG_11_329 yD_2_evaluated X hw rfl yGo_2 (Nat.le_trans (Nat.le_of_ble_eq_true rfl) hRf) (Nat.le_trans (Nat.le_of_ble_eq_true rfl) hRl) rfl hl.1 (Nat.le_of_ble_eq_true rfl) rfl dX11_prepare_87 (fun v6 u H locs rv6 h hw => ?_)
    refine ycV (n := 1) (e_11_showValue rv6 h) 11 9 (r := (RX11, TX11, 21)) rfl yG_11_332 yD_11_showValue X hw rfl yGo_11 (Nat.le_trans (Nat.le_of_ble_eq_true rfl) hRf) (Nat.le_trans (Nat.le_of_ble_eq_true rfl) hRl) rfl hl.1 (Nat.le_of_ble_eq_true rfl) rfl dX11_prepare_90 (fun u H locs h hw => ?_)
    refine lv_goto hx hb dX11_prepare_93 (tgt := 237) rfl ?_
    exact hret _ _ _ _ _ h hw dX11_prepare_237
  refine br_sp h (fun ek h => ?_) (fun n12 h => ?_)
  · refine k_tabIn (tgt := 96) (off := 69) hx hb dX11_prepare_27 ek (by decide) (by decide) rfl rfl ?_
    refine lv_aload_n hx hb dX11_prepare_96 rfl (lv_at hl 1 rfl) ?_
    refine lv_aload_n hx hb dX11_prepare_97 rfl (lv_at hl 1 rfl) ?_
    refine yg_11_70 X hw dX11_prepare_98 ?_
    refine lv_aload_n hx hb dX11_prepare_101 rfl (lv_at hl 1 rfl) ?_
    refine yg_11_118 X hw dX11_prepare_102 h (fun v9 rv9 h => ?_)
    refine lv_iconst hx hb dX11_prepare_105 (v := jI 0) rfl ?_
    refine lv_iconst hx hb dX11_prepare_106 (v := jI 0) rfl ?_
    refine ycI (n := 3) (e_6_rewritten rv9 (by decide) (by decide) h) 6 5 (r := (RX6, TX6, 14)) rfl yG_11_335 yD_6_rewritten X hw rfl yGo_6 (Nat.le_trans (Nat.le_of_ble_eq_true rfl) hRf) (Nat.le_trans (Nat.le_of_ble_eq_true rfl) hRl) rfl hl.1 (Nat.le_of_ble_eq_true rfl) rfl dX11_prepare_107 (fun v10 u H locs rv10 h hw => ?_)
    refine ycV (n := 1) (e_11_showTerm rv10 h) 11 9 (r := (RX11, TX11, 21)) rfl yG_11_339 yD_11_showTerm X hw rfl yGo_11 (Nat.le_trans (Nat.le_of_ble_eq_true rfl) hRf) (Nat.le_trans (Nat.le_of_ble_eq_true rfl) hRl) rfl hl.1 (Nat.le_of_ble_eq_true rfl) rfl dX11_prepare_110 (fun u H locs h hw => ?_)
    refine lv_goto hx hb dX11_prepare_113 (tgt := 237) rfl ?_
    exact hret _ _ _ _ _ h hw dX11_prepare_237
  refine br_sp h (fun ek h => ?_) (fun n18 h => ?_)
  · refine k_tabIn (tgt := 116) (off := 89) hx hb dX11_prepare_27 ek (by decide) (by decide) rfl rfl ?_
    refine lv_aload_n hx hb dX11_prepare_116 rfl (lv_at hl 1 rfl) ?_
    refine yg_11_79 X hw dX11_prepare_117 ?_
    refine lv_aload_n hx hb dX11_prepare_120 rfl (lv_at hl 1 rfl) ?_
    refine yg_11_124 X hw dX11_prepare_121 h (fun v13 rv13 h => ?_)
    refine ycV (n := 1) (e_8_mute rv13 h) 8 7 (r := (RX8, TX8, 11)) rfl yG_11_342 yD_8_mute X hw rfl yGo_8 (Nat.le_trans (Nat.le_of_ble_eq_true rfl) hRf) (Nat.le_trans (Nat.le_of_ble_eq_true rfl) hRl) rfl hl.1 (Nat.le_of_ble_eq_true rfl) rfl dX11_prepare_124 (fun u H locs h hw => ?_)
    refine lv_aload_n hx hb dX11_prepare_127 rfl (lv_at hl 1 rfl) ?_
    refine yg_11_79 X hw dX11_prepare_128 ?_
    refine lv_aload_n hx hb dX11_prepare_131 rfl (lv_at hl 1 rfl) ?_
    refine yg_11_88 X hw dX11_prepare_132 ?_
    refine lv_aload_n hx hb dX11_prepare_135 rfl (lv_at hl 1 rfl) ?_
    refine yg_11_118 X hw dX11_prepare_136 h (fun v15 rv15 h => ?_)
    refine lv_aload_n hx hb dX11_prepare_139 rfl (lv_at hl 1 rfl) ?_
    refine yg_11_124 X hw dX11_prepare_140 h (fun v16 rv16 h => ?_)
    refine ycV (n := 3) (e_8_addTheoremClauses rv15 rv16 h) 8 7 (r := (RX8, TX8, 11)) rfl yG_11_345 yD_8_addTheoremClauses X hw rfl yGo_8 (Nat.le_trans (Nat.le_of_ble_eq_true rfl) hRf) (Nat.le_trans (Nat.le_of_ble_eq_true rfl) hRl) rfl hl.1 (Nat.le_of_ble_eq_true rfl) rfl dX11_prepare_143 (fun u H locs h hw => ?_)
    refine lv_goto hx hb dX11_prepare_146 (tgt := 237) rfl ?_
    exact hret _ _ _ _ _ h hw dX11_prepare_237
  refine br_sp h (fun ek h => ?_) (fun n25 h => ?_)
  · refine k_tabIn (tgt := 149) (off := 122) hx hb dX11_prepare_27 ek (by decide) (by decide) rfl rfl ?_
    refine lv_aload_n hx hb dX11_prepare_149 rfl (lv_at hl 1 rfl) ?_
    refine yg_11_121 X hw dX11_prepare_150 h (fun v19 rv19 h => ?_)
    refine lv_iconst hx hb dX11_prepare_153 (v := jI (-1)) rfl ?_
    refine k_icmp_eq hx hb rv19 (by decide) dX11_prepare_154 (tgt := 237) rfl h (fun h => ?_) (fun h => ?_)
    · exact hret _ _ _ _ _ h hw dX11_prepare_237
    · refine lv_aload_n hx hb dX11_prepare_157 rfl (lv_at hl 1 rfl) ?_
      refine yg_11_79 X hw dX11_prepare_158 ?_
      refine lv_aload_n hx hb dX11_prepare_161 rfl (lv_at hl 1 rfl) ?_
      refine yg_11_88 X hw dX11_prepare_162 ?_
      refine lv_aload_n hx hb dX11_prepare_165 rfl (lv_at hl 1 rfl) ?_
      refine yg_11_115 X hw dX11_prepare_166 h (fun v20 rv20 h => ?_)
      refine lv_aload_n hx hb dX11_prepare_169 rfl (lv_at hl 1 rfl) ?_
      refine yg_11_14 X hw dX11_prepare_170 ?_
      refine lv_iload_n hx hb dX11_prepare_173 rfl (lv_at hl 2 rfl) ?_
      refine lv_iconst hx hb dX11_prepare_174 (v := jI 2) rfl ?_
      refine ycI (n := 2) (e_7_item ra0 (by decide) h) 7 6 (r := (RX7, TX7, 9)) rfl yG_11_173 yD_7_item X hw rfl yGo_7 (Nat.le_trans (Nat.le_of_ble_eq_true rfl) hRf) (Nat.le_trans (Nat.le_of_ble_eq_true rfl) hRl) rfl hl.1 (Nat.le_of_ble_eq_true rfl) rfl dX11_prepare_175 (fun v21 u H locs rv21 h hw => ?_)
      refine lv_aload_n hx hb dX11_prepare_178 rfl (lv_at hl 1 rfl) ?_
      refine yg_11_118 X hw dX11_prepare_179 h (fun v22 rv22 h => ?_)
      refine lv_aload_n hx hb dX11_prepare_182 rfl (lv_at hl 1 rfl) ?_
      refine yg_11_121 X hw dX11_prepare_183 h (fun v23 rv23 h => ?_)
      refine ycV (n := 5) (e_8_addMeasureClauses rv20 rv21 rv22 rv23 h) 8 7 (r := (RX8, TX8, 11)) rfl yG_11_349 yD_8_addMeasureClauses X hw rfl yGo_8 (Nat.le_trans (Nat.le_of_ble_eq_true rfl) hRf) (Nat.le_trans (Nat.le_of_ble_eq_true rfl) hRl) rfl hl.1 (Nat.le_of_ble_eq_true rfl) rfl dX11_prepare_186 (fun u H locs h hw => ?_)
      refine lv_goto hx hb dX11_prepare_189 (tgt := 237) rfl ?_
      exact hret _ _ _ _ _ h hw dX11_prepare_237
  refine br_sp h (fun ek h => ?_) (fun n31 h => ?_)
  · refine k_tabIn (tgt := 116) (off := 89) hx hb dX11_prepare_27 ek (by decide) (by decide) rfl rfl ?_
    refine lv_aload_n hx hb dX11_prepare_116 rfl (lv_at hl 1 rfl) ?_
    refine yg_11_79 X hw dX11_prepare_117 ?_
    refine lv_aload_n hx hb dX11_prepare_120 rfl (lv_at hl 1 rfl) ?_
    refine yg_11_124 X hw dX11_prepare_121 h (fun v26 rv26 h => ?_)
    refine ycV (n := 1) (e_8_mute rv26 h) 8 7 (r := (RX8, TX8, 11)) rfl yG_11_342 yD_8_mute X hw rfl yGo_8 (Nat.le_trans (Nat.le_of_ble_eq_true rfl) hRf) (Nat.le_trans (Nat.le_of_ble_eq_true rfl) hRl) rfl hl.1 (Nat.le_of_ble_eq_true rfl) rfl dX11_prepare_124 (fun u H locs h hw => ?_)
    refine lv_aload_n hx hb dX11_prepare_127 rfl (lv_at hl 1 rfl) ?_
    refine yg_11_79 X hw dX11_prepare_128 ?_
    refine lv_aload_n hx hb dX11_prepare_131 rfl (lv_at hl 1 rfl) ?_
    refine yg_11_88 X hw dX11_prepare_132 ?_
    refine lv_aload_n hx hb dX11_prepare_135 rfl (lv_at hl 1 rfl) ?_
    refine yg_11_118 X hw dX11_prepare_136 h (fun v28 rv28 h => ?_)
    refine lv_aload_n hx hb dX11_prepare_139 rfl (lv_at hl 1 rfl) ?_
    refine yg_11_124 X hw dX11_prepare_140 h (fun v29 rv29 h => ?_)
    refine ycV (n := 3) (e_8_addTheoremClauses rv28 rv29 h) 8 7 (r := (RX8, TX8, 11)) rfl yG_11_345 yD_8_addTheoremClauses X hw rfl yGo_8 (Nat.le_trans (Nat.le_of_ble_eq_true rfl) hRf) (Nat.le_trans (Nat.le_of_ble_eq_true rfl) hRl) rfl hl.1 (Nat.le_of_ble_eq_true rfl) rfl dX11_prepare_143 (fun u H locs h hw => ?_)
    refine lv_goto hx hb dX11_prepare_146 (tgt := 237) rfl ?_
    exact hret _ _ _ _ _ h hw dX11_prepare_237
  refine br_sp h (fun ek h => ?_) (fun n32 h => ?_)
  · refine k_tabIn (tgt := 237) (off := 210) hx hb dX11_prepare_27 ek (by decide) (by decide) rfl rfl ?_
    exact hret _ _ _ _ _ h hw dX11_prepare_237
  refine br_sp h (fun ek h => ?_) (fun n34 h => ?_)
  · refine k_tabIn (tgt := 192) (off := 165) hx hb dX11_prepare_27 ek (by decide) (by decide) rfl rfl ?_
    refine lv_iload_n hx hb dX11_prepare_192 rfl (lv_at hl 0 rfl) ?_
    refine lv_iconst hx hb dX11_prepare_193 (v := jI (-1)) rfl ?_
    refine k_icmp_eq hx hb rv2 (by decide) dX11_prepare_194 (tgt := 237) rfl h (fun h => ?_) (fun h => ?_)
    · exact hret _ _ _ _ _ h hw dX11_prepare_237
    · refine lv_aload_n hx hb dX11_prepare_197 rfl (lv_at hl 1 rfl) ?_
      refine yg_11_27 X hw dX11_prepare_198 ?_
      refine yg_11_353 X hw dX11_prepare_201 ?_
      refine lv_iload_n hx hb dX11_prepare_204 rfl (lv_at hl 0 rfl) ?_
      refine lv_aload_n hx hb dX11_prepare_205 rfl (lv_at hl 1 rfl) ?_
      refine yg_11_14 X hw dX11_prepare_206 ?_
      refine lv_iload_n hx hb dX11_prepare_209 rfl (lv_at hl 2 rfl) ?_
      refine ycI (n := 1) (e_7_left ra0 h) 7 6 (r := (RX7, TX7, 9)) rfl yG_11_170 yD_7_left X hw rfl yGo_7 (Nat.le_trans (Nat.le_of_ble_eq_true rfl) hRf) (Nat.le_trans (Nat.le_of_ble_eq_true rfl) hRl) rfl hl.1 (Nat.le_of_ble_eq_true rfl) rfl dX11_prepare_210 (fun v33 u H locs rv33 h hw => ?_)
      refine lv_bipush hx hb dX11_prepare_213 (v := jI 23) rfl ?_
      refine k_icmp_ne hx hb rv33 (by decide) dX11_prepare_215 (tgt := 222) rfl h (fun h => ?_) (fun h => ?_)
      · refine lv_iconst hx hb dX11_prepare_222 (v := jI 0) rfl ?_
        refine yt_12 X hw rv2 dX11_prepare_223 h (fun H locs u hw h => ?_)
        refine lv_goto hx hb dX11_prepare_224 (tgt := 237) rfl ?_
        exact hret _ _ _ _ _ h hw dX11_prepare_237
      · refine lv_iconst hx hb dX11_prepare_218 (v := jI 1) rfl ?_
        refine lv_goto hx hb dX11_prepare_219 (tgt := 223) rfl ?_
        refine yt_12 X hw rv2 dX11_prepare_223 h (fun H locs u hw h => ?_)
        refine lv_goto hx hb dX11_prepare_224 (tgt := 237) rfl ?_
        exact hret _ _ _ _ _ h hw dX11_prepare_237
  refine br_sp h (fun ek h => ?_) (fun n36 h => ?_)
  · refine k_tabIn (tgt := 192) (off := 165) hx hb dX11_prepare_27 ek (by decide) (by decide) rfl rfl ?_
    refine lv_iload_n hx hb dX11_prepare_192 rfl (lv_at hl 0 rfl) ?_
    refine lv_iconst hx hb dX11_prepare_193 (v := jI (-1)) rfl ?_
    refine k_icmp_eq hx hb rv2 (by decide) dX11_prepare_194 (tgt := 237) rfl h (fun h => ?_) (fun h => ?_)
    · exact hret _ _ _ _ _ h hw dX11_prepare_237
    · refine lv_aload_n hx hb dX11_prepare_197 rfl (lv_at hl 1 rfl) ?_
      refine yg_11_27 X hw dX11_prepare_198 ?_
      refine yg_11_353 X hw dX11_prepare_201 ?_
      refine lv_iload_n hx hb dX11_prepare_204 rfl (lv_at hl 0 rfl) ?_
      refine lv_aload_n hx hb dX11_prepare_205 rfl (lv_at hl 1 rfl) ?_
      refine yg_11_14 X hw dX11_prepare_206 ?_
      refine lv_iload_n hx hb dX11_prepare_209 rfl (lv_at hl 2 rfl) ?_
      refine ycI (n := 1) (e_7_left ra0 h) 7 6 (r := (RX7, TX7, 9)) rfl yG_11_170 yD_7_left X hw rfl yGo_7 (Nat.le_trans (Nat.le_of_ble_eq_true rfl) hRf) (Nat.le_trans (Nat.le_of_ble_eq_true rfl) hRl) rfl hl.1 (Nat.le_of_ble_eq_true rfl) rfl dX11_prepare_210 (fun v35 u H locs rv35 h hw => ?_)
      refine lv_bipush hx hb dX11_prepare_213 (v := jI 23) rfl ?_
      refine k_icmp_ne hx hb rv35 (by decide) dX11_prepare_215 (tgt := 222) rfl h (fun h => ?_) (fun h => ?_)
      · refine lv_iconst hx hb dX11_prepare_222 (v := jI 0) rfl ?_
        refine yt_12 X hw rv2 dX11_prepare_223 h (fun H locs u hw h => ?_)
        refine lv_goto hx hb dX11_prepare_224 (tgt := 237) rfl ?_
        exact hret _ _ _ _ _ h hw dX11_prepare_237
      · refine lv_iconst hx hb dX11_prepare_218 (v := jI 1) rfl ?_
        refine lv_goto hx hb dX11_prepare_219 (tgt := 223) rfl ?_
        refine yt_12 X hw rv2 dX11_prepare_223 h (fun H locs u hw h => ?_)
        refine lv_goto hx hb dX11_prepare_224 (tgt := 237) rfl ?_
        exact hret _ _ _ _ _ h hw dX11_prepare_237
  refine br_sp h (fun ek h => ?_) (fun n38 h => ?_)
  · refine k_tabIn (tgt := 227) (off := 200) hx hb dX11_prepare_27 ek (by decide) (by decide) rfl rfl ?_
    refine lv_aload_n hx hb dX11_prepare_227 rfl (lv_at hl 1 rfl) ?_
    refine yg_11_27 X hw dX11_prepare_228 ?_
    refine ycV (n := 0) (e_0_takeBack h) 0 0 (r := (RX0, TX0, 21)) rfl yG_11_357 yD_0_takeBack X hw rfl yGo_0 (Nat.le_trans (Nat.le_of_ble_eq_true rfl) hRf) (Nat.le_trans (Nat.le_of_ble_eq_true rfl) hRl) rfl hl.1 (Nat.le_of_ble_eq_true rfl) rfl dX11_prepare_231 (fun u H locs h hw => ?_)
    refine lv_goto hx hb dX11_prepare_234 (tgt := 237) rfl ?_
    exact hret _ _ _ _ _ h hw dX11_prepare_237
  refine k_tabOut (tgt := 237) hx hb rv4 dX11_prepare_27 (by omega) rfl ?_
  exact hret _ _ _ _ _ h hw dX11_prepare_237

end
theorem e_11_prepare {l : Launch} {a0 : Int} (ra0 : inR a0) {Q : iST → Prop} {u : iST} (h : v_11_prepare a0 Q u) : yMV l yX11_prepare (.code yX11_prepare cX11_prepare 3 none :: wsN) { frames := 10, cells := 0, slots := 0, locals := 303 } (fun ad => [.ref (ad 0 9), .int (jI a0)]) Q u := yMV_of (own := RX11) rfl (by decide +kernel) (fun _ => Nat.le_of_ble_eq_true rfl) (fun X hRf hRl hret hw hl => f_11_prepare_s X hRf hRl hret ra0 hw hl h)

/-! ProofHouse.shownWrong -/
theorem dX11_shownWrong_0 : decode cX11_shownWrong 0 = .ok (.aload_n 0, 1) := by decide +kernel
theorem dX11_shownWrong_1 : decode cX11_shownWrong 1 = .ok (.getfield 97, 3) := by decide +kernel
theorem dX11_shownWrong_4 : decode cX11_shownWrong 4 = .ok (.getfield 390, 3) := by decide +kernel
theorem dX11_shownWrong_7 : decode cX11_shownWrong 7 = .ok (.iconst 0, 1) := by decide +kernel
theorem dX11_shownWrong_8 : decode cX11_shownWrong 8 = .ok (.aaload, 1) := by decide +kernel
theorem dX11_shownWrong_9 : decode cX11_shownWrong 9 = .ok (.astore_n 1, 1) := by decide +kernel
theorem dX11_shownWrong_10 : decode cX11_shownWrong 10 = .ok (.iconst 0, 1) := by decide +kernel
theorem dX11_shownWrong_11 : decode cX11_shownWrong 11 = .ok (.istore_n 2, 1) := by decide +kernel
theorem dX11_shownWrong_12 : decode cX11_shownWrong 12 = .ok (.iconst 0, 1) := by decide +kernel
theorem dX11_shownWrong_13 : decode cX11_shownWrong 13 = .ok (.istore_n 3, 1) := by decide +kernel
theorem dX11_shownWrong_14 : decode cX11_shownWrong 14 = .ok (.iload_n 3, 1) := by decide +kernel
theorem dX11_shownWrong_15 : decode cX11_shownWrong 15 = .ok (.aload_n 1, 1) := by decide +kernel
theorem dX11_shownWrong_16 : decode cX11_shownWrong 16 = .ok (.getfield 394, 3) := by decide +kernel
theorem dX11_shownWrong_19 : decode cX11_shownWrong 19 = .ok (.if_icmp .ge 30, 3) := by decide +kernel
theorem dX11_shownWrong_22 : decode cX11_shownWrong 22 = .ok (.iload_n 2, 1) := by decide +kernel
theorem dX11_shownWrong_23 : decode cX11_shownWrong 23 = .ok (.aload_n 1, 1) := by decide +kernel
theorem dX11_shownWrong_24 : decode cX11_shownWrong 24 = .ok (.getfield 397, 3) := by decide +kernel
theorem dX11_shownWrong_27 : decode cX11_shownWrong 27 = .ok (.iload_n 3, 1) := by decide +kernel
theorem dX11_shownWrong_28 : decode cX11_shownWrong 28 = .ok (.iaload, 1) := by decide +kernel
theorem dX11_shownWrong_29 : decode cX11_shownWrong 29 = .ok (.aload_n 0, 1) := by decide +kernel
theorem dX11_shownWrong_30 : decode cX11_shownWrong 30 = .ok (.getfield 118, 3) := by decide +kernel
theorem dX11_shownWrong_33 : decode cX11_shownWrong 33 = .ok (.if_icmp .ne 7, 3) := by decide +kernel
theorem dX11_shownWrong_36 : decode cX11_shownWrong 36 = .ok (.iconst 0, 1) := by decide +kernel
theorem dX11_shownWrong_37 : decode cX11_shownWrong 37 = .ok (.goto 4, 3) := by decide +kernel
theorem dX11_shownWrong_40 : decode cX11_shownWrong 40 = .ok (.iconst 1, 1) := by decide +kernel
theorem dX11_shownWrong_41 : decode cX11_shownWrong 41 = .ok (.iadd, 1) := by decide +kernel
theorem dX11_shownWrong_42 : decode cX11_shownWrong 42 = .ok (.istore_n 2, 1) := by decide +kernel
theorem dX11_shownWrong_43 : decode cX11_shownWrong 43 = .ok (.iinc 3 1, 3) := by decide +kernel
theorem dX11_shownWrong_46 : decode cX11_shownWrong 46 = .ok (.goto (-32), 3) := by decide +kernel
theorem dX11_shownWrong_49 : decode cX11_shownWrong 49 = .ok (.aload_n 0, 1) := by decide +kernel
theorem dX11_shownWrong_50 : decode cX11_shownWrong 50 = .ok (.getfield 97, 3) := by decide +kernel
theorem dX11_shownWrong_53 : decode cX11_shownWrong 53 = .ok (.getfield 400, 3) := by decide +kernel
theorem dX11_shownWrong_56 : decode cX11_shownWrong 56 = .ok (.iconst (-1), 1) := by decide +kernel
theorem dX11_shownWrong_57 : decode cX11_shownWrong 57 = .ok (.if_icmp .eq 11, 3) := by decide +kernel
theorem dX11_shownWrong_60 : decode cX11_shownWrong 60 = .ok (.aload_n 0, 1) := by decide +kernel
theorem dX11_shownWrong_61 : decode cX11_shownWrong 61 = .ok (.getfield 97, 3) := by decide +kernel
theorem dX11_shownWrong_64 : decode cX11_shownWrong 64 = .ok (.getfield 400, 3) := by decide +kernel
theorem dX11_shownWrong_67 : decode cX11_shownWrong 67 = .ok (.ireturn, 1) := by decide +kernel
theorem dX11_shownWrong_68 : decode cX11_shownWrong 68 = .ok (.iload_n 2, 1) := by decide +kernel
theorem dX11_shownWrong_69 : decode cX11_shownWrong 69 = .ok (.ifCond .le 14, 3) := by decide +kernel
theorem dX11_shownWrong_72 : decode cX11_shownWrong 72 = .ok (.aload_n 0, 1) := by decide +kernel
theorem dX11_shownWrong_73 : decode cX11_shownWrong 73 = .ok (.getfield 88, 3) := by decide +kernel
theorem dX11_shownWrong_76 : decode cX11_shownWrong 76 = .ok (.aload_n 1, 1) := by decide +kernel
theorem dX11_shownWrong_77 : decode cX11_shownWrong 77 = .ok (.invokevirtual 403, 3) := by decide +kernel
theorem dX11_shownWrong_80 : decode cX11_shownWrong 80 = .ok (.goto 4, 3) := by decide +kernel
theorem dX11_shownWrong_83 : decode cX11_shownWrong 83 = .ok (.iconst (-1), 1) := by decide +kernel
theorem dX11_shownWrong_84 : decode cX11_shownWrong 84 = .ok (.ireturn, 1) := by decide +kernel

section
variable {p : Program} {l : Launch} {e : Env} {R : Room} {s : State} {m : MethodId} {args : Array Value} {below : List Frame} {meth : Method} {c : Code} {H : Heap} {locs : List Loc} {Qf : State → Prop}
variable {ls : Array Slot} {D : va_G} {ca : Nat → ClassId} {A : Nat → Prop} {ad : Nat → Nat → Nat} {u : iST}
def v_11_shownWrong_14b (R14 : Int → Int → Int → iST → Prop) (Q : Int → iST → Prop) (x1 : Int) (x2 : Int) (x3 : Int) (u : iST) : Prop :=
  rd (u.2.1 46 x1) (fun v2 => 
  br (v2 ≤ x3) (
    rd (u.1 12) (fun v3 => 
    br (v3 = (-1)) (
      br (x2 ≤ 0) (
        Q (-1) u) (
        v_4_listOf x1 (fun v4 u => 
        Q v4 u) u)) (
      rd (u.1 12) (fun v5 => 
      Q v5 u)))) (
    bd x3 30 (rd (u.2.1 49 (30 * x1 + x3)) (fun v6 => 
    rd (u.1 45) (fun v7 => 
    br (v6 ≠ v7) (
      ov (x2 + 1) (
      ov (x3 + 1) (
      R14 x1 (x2 + 1) (x3 + 1) u))) (
      ov (x2 + 0) (
      ov (x3 + 1) (
      R14 x1 (x2 + 0) (x3 + 1) u))))))))
def v_11_shownWrong_14 (Q : Int → iST → Prop) (x1 : Int) (x2 : Int) (x3 : Int) (u : iST) : Prop := ∀ R14 : Int → Int → Int → iST → Prop, (∀ (x1 : Int) (x2 : Int) (x3 : Int) (u : iST), v_11_shownWrong_14b R14 Q x1 x2 x3 u → R14 x1 x2 x3 u) → R14 x1 x2 x3 u
set_option maxRecDepth 20000 in
set_option maxHeartbeats 4000000 in
theorem f_11_shownWrong_14 (X : yX RX11 p m c cX11_shownWrong 4 s args D ca ad A) (hRf : 2 ≤ R.frames) (hRl : 53 ≤ R.locals) {Q : Int → iST → Prop} (hret : ∀ (v : Int) (u : iST) (H : Heap) (locs : List Loc) (ls : Array Slot) (pc : Nat), inR v → Q v u → yW D ca A ad s H locs u → decode cX11_shownWrong pc = .ok (.ireturn, 1) → W p l e R s m args below meth c H locs 0 0 Qf (F0 m pc ls [.int (jI v)])) {x1 x2 x3 : Int} (rx1 : (0 ≤ x1 ∧ x1 < 408)) (rx2 : inR x2) (rx3 : inR x3) (hw : yW D ca A ad s H locs u) (hl : lv_has ls 4 [(0, .ref (ad 0 9)), (1, .ref (ad 4 x1.toNat)), (2, .int (jI x2)), (3, .int (jI x3))]) (h : v_11_shownWrong_14 Q x1 x2 x3 u) : W p l e R s m args below meth c H locs 0 0 Qf (F0 m 14 ls []) := by
  refine h (fun x1 x2 x3 u => ∀ (H : Heap) (locs : List Loc) (ls : Array Slot), (0 ≤ x1 ∧ x1 < 408) → inR x2 → inR x3 → yW D ca A ad s H locs u → lv_has ls 4 [(0, .ref (ad 0 9)), (1, .ref (ad 4 x1.toNat)), (2, .int (jI x2)), (3, .int (jI x3))] → W p l e R s m args below meth c H locs 0 0 Qf (F0 m 14 ls [])) ?_ H locs ls rx1 rx2 rx3 hw hl
  clear h hl hw rx1 rx2 rx3
  intro x1 x2 x3 u h H locs ls rx1 rx2 rx3 hw hl
  have hR14 : ∀ (x1 : Int) (x2 : Int) (x3 : Int) (u : iST) (H : Heap) (locs : List Loc) (ls : Array Slot), (0 ≤ x1 ∧ x1 < 408) → inR x2 → inR x3 → yW D ca A ad s H locs u → lv_has ls 4 [(0, .ref (ad 0 9)), (1, .ref (ad 4 x1.toNat)), (2, .int (jI x2)), (3, .int (jI x3))] → (fun (x1 : Int) (x2 : Int) (x3 : Int) u => ∀ (H : Heap) (locs : List Loc) (ls : Array Slot), (0 ≤ x1 ∧ x1 < 408) → inR x2 → inR x3 → yW D ca A ad s H locs u → lv_has ls 4 [(0, .ref (ad 0 9)), (1, .ref (ad 4 x1.toNat)), (2, .int (jI x2)), (3, .int (jI x3))] → W p l e R s m args below meth c H locs 0 0 Qf (F0 m 14 ls [])) x1 x2 x3 u → W p l e R s m args below meth c H locs 0 0 Qf (F0 m 14 ls []) := fun x1 x2 x3 u H locs ls rx1 rx2 rx3 hw hl h => h H locs ls rx1 rx2 rx3 hw hl
  have hx := X.1.1
  have hb := X.1.2.1
  unfold v_11_shownWrong_14b at h
  refine lv_iload_n hx hb dX11_shownWrong_14 rfl (lv_at hl 3 rfl) ?_
  refine lv_aload_n hx hb dX11_shownWrong_15 rfl (lv_at hl 1 rfl) ?_
  refine yg_11_394 X hw dX11_shownWrong_16 rx1 h (fun v2 rv2 h => ?_)
  refine k_icmp_ge hx hb rx3 rv2 dX11_shownWrong_19 (tgt := 49) rfl h (fun h => ?_) (fun h => ?_)
  · refine lv_aload_n hx hb dX11_shownWrong_49 rfl (lv_at hl 0 rfl) ?_
    refine yg_11_97 X hw dX11_shownWrong_50 ?_
    refine yg_11_400 X hw dX11_shownWrong_53 h (fun v3 rv3 h => ?_)
    refine lv_iconst hx hb dX11_shownWrong_56 (v := jI (-1)) rfl ?_
    refine k_icmp_eq hx hb rv3 (by decide) dX11_shownWrong_57 (tgt := 68) rfl h (fun h => ?_) (fun h => ?_)
    · refine lv_iload_n hx hb dX11_shownWrong_68 rfl (lv_at hl 2 rfl) ?_
      refine k_if_le hx hb rx2 dX11_shownWrong_69 (tgt := 83) rfl h (fun h => ?_) (fun h => ?_)
      · refine lv_iconst hx hb dX11_shownWrong_83 (v := jI (-1)) rfl ?_
        exact hret _ _ _ _ _ _ (by decide) h hw dX11_shownWrong_84
      · refine lv_aload_n hx hb dX11_shownWrong_72 rfl (lv_at hl 0 rfl) ?_
        refine yg_11_88 X hw dX11_shownWrong_73 ?_
        refine lv_aload_n hx hb dX11_shownWrong_76 rfl (lv_at hl 1 rfl) ?_
        refine ycI (n := 1) (e_4_listOf rx1 h) 4 3 (r := (RX4, TX4, 11)) rfl yG_11_403 yD_4_listOf X hw rfl yGo_4 (Nat.le_trans (Nat.le_of_ble_eq_true rfl) hRf) (Nat.le_trans (Nat.le_of_ble_eq_true rfl) hRl) rfl hl.1 (Nat.le_of_ble_eq_true rfl) rfl dX11_shownWrong_77 (fun v4 u H locs rv4 h hw => ?_)
        refine lv_goto hx hb dX11_shownWrong_80 (tgt := 84) rfl ?_
        exact hret _ _ _ _ _ _ rv4 h hw dX11_shownWrong_84
    · refine lv_aload_n hx hb dX11_shownWrong_60 rfl (lv_at hl 0 rfl) ?_
      refine yg_11_97 X hw dX11_shownWrong_61 ?_
      refine yg_11_400 X hw dX11_shownWrong_64 h (fun v5 rv5 h => ?_)
      exact hret _ _ _ _ _ _ rv5 h hw dX11_shownWrong_67
  · refine lv_iload_n hx hb dX11_shownWrong_22 rfl (lv_at hl 2 rfl) ?_
    refine lv_aload_n hx hb dX11_shownWrong_23 rfl (lv_at hl 1 rfl) ?_
    refine yg_11_397 X hw dX11_shownWrong_24 rx1 ?_
    refine lv_iload_n hx hb dX11_shownWrong_27 rfl (lv_at hl 3 rfl) ?_
    refine yfl_lits X hw rx1 rx3 dX11_shownWrong_28 h (fun v6 rv6 h => ?_)
    refine lv_aload_n hx hb dX11_shownWrong_29 rfl (lv_at hl 0 rfl) ?_
    refine yg_11_118 X hw dX11_shownWrong_30 h (fun v7 rv7 h => ?_)
    refine k_icmp_ne hx hb rv6 rv7 dX11_shownWrong_33 (tgt := 40) rfl h (fun h => ?_) (fun h => ?_)
    · refine lv_iconst hx hb dX11_shownWrong_40 (v := jI 1) rfl ?_
      refine k_iadd hx hb dX11_shownWrong_41 h (fun r8 h => ?_)
      refine lv_istore_n hx hb dX11_shownWrong_42 rfl hl (by decide) rfl (fun ls hl => ?_)
      have hl : lv_has ls 4 [(2, .int (jI (x2 + 1))), (0, .ref (ad 0 9)), (1, .ref (ad 4 x1.toNat)), (3, .int (jI x3))] := hl
      refine k_iinc (k := 3) hx hb dX11_shownWrong_43 hl rfl (by decide) rfl h (fun ls r9 h hl => ?_)
      have hl : lv_has ls 4 [(3, .int (jI (x3 + 1))), (2, .int (jI (x2 + 1))), (0, .ref (ad 0 9)), (1, .ref (ad 4 x1.toNat))] := hl
      refine lv_goto hx hb dX11_shownWrong_46 (tgt := 14) rfl ?_
      exact hR14 _ _ _ _ H locs ls rx1 r8 r9 hw (lv_sub hl [2, 3, 1, 0] rfl) h
    · refine lv_iconst hx hb dX11_shownWrong_36 (v := jI 0) rfl ?_
      refine lv_goto hx hb dX11_shownWrong_37 (tgt := 41) rfl ?_
      refine k_iadd hx hb dX11_shownWrong_41 h (fun r10 h => ?_)
      refine lv_istore_n hx hb dX11_shownWrong_42 rfl hl (by decide) rfl (fun ls hl => ?_)
      have hl : lv_has ls 4 [(2, .int (jI (x2 + 0))), (0, .ref (ad 0 9)), (1, .ref (ad 4 x1.toNat)), (3, .int (jI x3))] := hl
      refine k_iinc (k := 3) hx hb dX11_shownWrong_43 hl rfl (by decide) rfl h (fun ls r11 h hl => ?_)
      have hl : lv_has ls 4 [(3, .int (jI (x3 + 1))), (2, .int (jI (x2 + 0))), (0, .ref (ad 0 9)), (1, .ref (ad 4 x1.toNat))] := hl
      refine lv_goto hx hb dX11_shownWrong_46 (tgt := 14) rfl ?_
      exact hR14 _ _ _ _ H locs ls rx1 r10 r11 hw (lv_sub hl [2, 3, 1, 0] rfl) h

def v_11_shownWrong (Q : Int → iST → Prop) (u : iST) : Prop :=
  bd 0 256 (rc (u.2.1 57 0) (fun v1 => 
  v_11_shownWrong_14 Q v1 0 0 u))
set_option maxRecDepth 20000 in
set_option maxHeartbeats 4000000 in
theorem f_11_shownWrong_s (X : yX RX11 p m c cX11_shownWrong 4 s args D ca ad A) (hRf : 2 ≤ R.frames) (hRl : 53 ≤ R.locals) {Q : Int → iST → Prop} (hret : ∀ (v : Int) (u : iST) (H : Heap) (locs : List Loc) (ls : Array Slot) (pc : Nat), inR v → Q v u → yW D ca A ad s H locs u → decode cX11_shownWrong pc = .ok (.ireturn, 1) → W p l e R s m args below meth c H locs 0 0 Qf (F0 m pc ls [.int (jI v)])) (hw : yW D ca A ad s H locs u) (hl : lv_has ls 4 [(0, .ref (ad 0 9))]) (h : v_11_shownWrong Q u) : W p l e R s m args below meth c H locs 0 0 Qf (F0 m 0 ls []) := by
  have hx := X.1.1
  have hb := X.1.2.1
  unfold v_11_shownWrong at h
  refine lv_aload_n hx hb dX11_shownWrong_0 rfl (lv_at hl 0 rfl) ?_
  refine yg_11_97 X hw dX11_shownWrong_1 ?_
  refine yg_11_390 X hw dX11_shownWrong_4 ?_
  refine lv_iconst hx hb dX11_shownWrong_7 (v := jI 0) rfl ?_
  refine yx_7 X hw (by decide) dX11_shownWrong_8 h (fun v1 rv1 h => ?_)
  refine lv_astore_n hx hb dX11_shownWrong_9 rfl hl (by decide) rfl (fun ls hl => ?_)
  have hl : lv_has ls 4 [(1, .ref (ad 4 v1.toNat)), (0, .ref (ad 0 9))] := hl
  refine lv_iconst hx hb dX11_shownWrong_10 (v := jI 0) rfl ?_
  refine lv_istore_n hx hb dX11_shownWrong_11 rfl hl (by decide) rfl (fun ls hl => ?_)
  have hl : lv_has ls 4 [(2, .int (jI 0)), (1, .ref (ad 4 v1.toNat)), (0, .ref (ad 0 9))] := hl
  refine lv_iconst hx hb dX11_shownWrong_12 (v := jI 0) rfl ?_
  refine lv_istore_n hx hb dX11_shownWrong_13 rfl hl (by decide) rfl (fun ls hl => ?_)
  have hl : lv_has ls 4 [(3, .int (jI 0)), (2, .int (jI 0)), (1, .ref (ad 4 v1.toNat)), (0, .ref (ad 0 9))] := hl
  exact f_11_shownWrong_14 X hRf hRl hret rv1 (by decide) (by decide) hw (lv_sub hl [3, 2, 1, 0] rfl) h

end
theorem e_11_shownWrong {l : Launch} {Q : Int → iST → Prop} {u : iST} (h : v_11_shownWrong Q u) : yMI l yX11_shownWrong (.code yX11_shownWrong cX11_shownWrong 4 (some .int) :: wsN) { frames := 2, cells := 0, slots := 0, locals := 53 } (fun ad => [.ref (ad 0 9)]) Q u := yMI_of (own := RX11) rfl (by decide +kernel) (fun _ => Nat.le_of_ble_eq_true rfl) (fun X hRf hRl hret hw hl => f_11_shownWrong_s X hRf hRl hret hw hl h)

/-! ProofHouse.conclude -/
theorem dX11_conclude_0 : decode cX11_conclude 0 = .ok (.aload_n 0, 1) := by decide +kernel
theorem dX11_conclude_1 : decode cX11_conclude 1 = .ok (.getfield 14, 3) := by decide +kernel
theorem dX11_conclude_4 : decode cX11_conclude 4 = .ok (.iload_n 1, 1) := by decide +kernel
theorem dX11_conclude_5 : decode cX11_conclude 5 = .ok (.invokevirtual 170, 3) := by decide +kernel
theorem dX11_conclude_8 : decode cX11_conclude 8 = .ok (.istore_n 3, 1) := by decide +kernel
theorem dX11_conclude_9 : decode cX11_conclude 9 = .ok (.aload_n 0, 1) := by decide +kernel
theorem dX11_conclude_10 : decode cX11_conclude 10 = .ok (.getfield 14, 3) := by decide +kernel
theorem dX11_conclude_13 : decode cX11_conclude 13 = .ok (.getfield 157, 3) := by decide +kernel
theorem dX11_conclude_16 : decode cX11_conclude 16 = .ok (.ifCond .eq 19, 3) := by decide +kernel
theorem dX11_conclude_19 : decode cX11_conclude 19 = .ok (.aload_n 0, 1) := by decide +kernel
theorem dX11_conclude_20 : decode cX11_conclude 20 = .ok (.getfield 45, 3) := by decide +kernel
theorem dX11_conclude_23 : decode cX11_conclude 23 = .ok (.invokevirtual 243, 3) := by decide +kernel
theorem dX11_conclude_26 : decode cX11_conclude 26 = .ok (.aload_n 0, 1) := by decide +kernel
theorem dX11_conclude_27 : decode cX11_conclude 27 = .ok (.getfield 88, 3) := by decide +kernel
theorem dX11_conclude_30 : decode cX11_conclude 30 = .ok (.invokevirtual 266, 3) := by decide +kernel
theorem dX11_conclude_33 : decode cX11_conclude 33 = .ok (.iconst 4, 1) := by decide +kernel
theorem dX11_conclude_34 : decode cX11_conclude 34 = .ok (.ireturn, 1) := by decide +kernel
theorem dX11_conclude_35 : decode cX11_conclude 35 = .ok (.aload_n 0, 1) := by decide +kernel
theorem dX11_conclude_36 : decode cX11_conclude 36 = .ok (.getfield 88, 3) := by decide +kernel
theorem dX11_conclude_39 : decode cX11_conclude 39 = .ok (.getfield 199, 3) := by decide +kernel
theorem dX11_conclude_42 : decode cX11_conclude 42 = .ok (.ifCond .le 30, 3) := by decide +kernel
theorem dX11_conclude_45 : decode cX11_conclude 45 = .ok (.aload_n 0, 1) := by decide +kernel
theorem dX11_conclude_46 : decode cX11_conclude 46 = .ok (.getfield 45, 3) := by decide +kernel
theorem dX11_conclude_49 : decode cX11_conclude 49 = .ok (.aload_n 0, 1) := by decide +kernel
theorem dX11_conclude_50 : decode cX11_conclude 50 = .ok (.getfield 88, 3) := by decide +kernel
theorem dX11_conclude_53 : decode cX11_conclude 53 = .ok (.invokevirtual 366, 3) := by decide +kernel
theorem dX11_conclude_56 : decode cX11_conclude 56 = .ok (.invokevirtual 246, 3) := by decide +kernel
theorem dX11_conclude_59 : decode cX11_conclude 59 = .ok (.iload_n 3, 1) := by decide +kernel
theorem dX11_conclude_60 : decode cX11_conclude 60 = .ok (.bipush 20, 2) := by decide +kernel
theorem dX11_conclude_62 : decode cX11_conclude 62 = .ok (.if_icmp .ne 7, 3) := by decide +kernel
theorem dX11_conclude_65 : decode cX11_conclude 65 = .ok (.iconst 5, 1) := by decide +kernel
theorem dX11_conclude_66 : decode cX11_conclude 66 = .ok (.goto 5, 3) := by decide +kernel
theorem dX11_conclude_69 : decode cX11_conclude 69 = .ok (.bipush 6, 2) := by decide +kernel
theorem dX11_conclude_71 : decode cX11_conclude 71 = .ok (.ireturn, 1) := by decide +kernel
theorem dX11_conclude_72 : decode cX11_conclude 72 = .ok (.aload_n 0, 1) := by decide +kernel
theorem dX11_conclude_73 : decode cX11_conclude 73 = .ok (.aload_n 0, 1) := by decide +kernel
theorem dX11_conclude_74 : decode cX11_conclude 74 = .ok (.getfield 88, 3) := by decide +kernel
theorem dX11_conclude_77 : decode cX11_conclude 77 = .ok (.getfield 370, 3) := by decide +kernel
theorem dX11_conclude_80 : decode cX11_conclude 80 = .ok (.ifCond .le 7, 3) := by decide +kernel
theorem dX11_conclude_83 : decode cX11_conclude 83 = .ok (.iconst 1, 1) := by decide +kernel
theorem dX11_conclude_84 : decode cX11_conclude 84 = .ok (.goto 4, 3) := by decide +kernel
theorem dX11_conclude_87 : decode cX11_conclude 87 = .ok (.iconst 0, 1) := by decide +kernel
theorem dX11_conclude_88 : decode cX11_conclude 88 = .ok (.putfield 133, 3) := by decide +kernel
theorem dX11_conclude_91 : decode cX11_conclude 91 = .ok (.iload_n 3, 1) := by decide +kernel
theorem dX11_conclude_92 : decode cX11_conclude 92 = .ok (.bipush 22, 2) := by decide +kernel
theorem dX11_conclude_94 : decode cX11_conclude 94 = .ok (.if_icmp .ne 25, 3) := by decide +kernel
theorem dX11_conclude_97 : decode cX11_conclude 97 = .ok (.aload_n 0, 1) := by decide +kernel
theorem dX11_conclude_98 : decode cX11_conclude 98 = .ok (.invokevirtual 373, 3) := by decide +kernel
theorem dX11_conclude_101 : decode cX11_conclude 101 = .ok (.iconst (-1), 1) := by decide +kernel
theorem dX11_conclude_102 : decode cX11_conclude 102 = .ok (.if_icmp .eq 17, 3) := by decide +kernel
theorem dX11_conclude_105 : decode cX11_conclude 105 = .ok (.aload_n 0, 1) := by decide +kernel
theorem dX11_conclude_106 : decode cX11_conclude 106 = .ok (.getfield 45, 3) := by decide +kernel
theorem dX11_conclude_109 : decode cX11_conclude 109 = .ok (.aload_n 0, 1) := by decide +kernel
theorem dX11_conclude_110 : decode cX11_conclude 110 = .ok (.invokevirtual 373, 3) := by decide +kernel
theorem dX11_conclude_113 : decode cX11_conclude 113 = .ok (.invokevirtual 246, 3) := by decide +kernel
theorem dX11_conclude_116 : decode cX11_conclude 116 = .ok (.bipush 7, 2) := by decide +kernel
theorem dX11_conclude_118 : decode cX11_conclude 118 = .ok (.ireturn, 1) := by decide +kernel
theorem dX11_conclude_119 : decode cX11_conclude 119 = .ok (.iload_n 3, 1) := by decide +kernel
theorem dX11_conclude_120 : decode cX11_conclude 120 = .ok (.bipush 20, 2) := by decide +kernel
theorem dX11_conclude_122 : decode cX11_conclude 122 = .ok (.if_icmp .ne 56, 3) := by decide +kernel
theorem dX11_conclude_125 : decode cX11_conclude 125 = .ok (.aload_n 0, 1) := by decide +kernel
theorem dX11_conclude_126 : decode cX11_conclude 126 = .ok (.getfield 14, 3) := by decide +kernel
theorem dX11_conclude_129 : decode cX11_conclude 129 = .ok (.iload_n 1, 1) := by decide +kernel
theorem dX11_conclude_130 : decode cX11_conclude 130 = .ok (.iconst 2, 1) := by decide +kernel
theorem dX11_conclude_131 : decode cX11_conclude 131 = .ok (.invokevirtual 173, 3) := by decide +kernel
theorem dX11_conclude_134 : decode cX11_conclude 134 = .ok (.istore 4, 2) := by decide +kernel
theorem dX11_conclude_136 : decode cX11_conclude 136 = .ok (.aload_n 0, 1) := by decide +kernel
theorem dX11_conclude_137 : decode cX11_conclude 137 = .ok (.getfield 27, 3) := by decide +kernel
theorem dX11_conclude_140 : decode cX11_conclude 140 = .ok (.aload_n 0, 1) := by decide +kernel
theorem dX11_conclude_141 : decode cX11_conclude 141 = .ok (.getfield 115, 3) := by decide +kernel
theorem dX11_conclude_144 : decode cX11_conclude 144 = .ok (.iload 4, 2) := by decide +kernel
theorem dX11_conclude_146 : decode cX11_conclude 146 = .ok (.aload_n 0, 1) := by decide +kernel
theorem dX11_conclude_147 : decode cX11_conclude 147 = .ok (.getfield 14, 3) := by decide +kernel
theorem dX11_conclude_150 : decode cX11_conclude 150 = .ok (.iload 4, 2) := by decide +kernel
theorem dX11_conclude_152 : decode cX11_conclude 152 = .ok (.invokevirtual 278, 3) := by decide +kernel
theorem dX11_conclude_155 : decode cX11_conclude 155 = .ok (.aload_n 0, 1) := by decide +kernel
theorem dX11_conclude_156 : decode cX11_conclude 156 = .ok (.getfield 118, 3) := by decide +kernel
theorem dX11_conclude_159 : decode cX11_conclude 159 = .ok (.aload_n 0, 1) := by decide +kernel
theorem dX11_conclude_160 : decode cX11_conclude 160 = .ok (.getfield 121, 3) := by decide +kernel
theorem dX11_conclude_163 : decode cX11_conclude 163 = .ok (.invokevirtual 376, 3) := by decide +kernel
theorem dX11_conclude_166 : decode cX11_conclude 166 = .ok (.aload_n 0, 1) := by decide +kernel
theorem dX11_conclude_167 : decode cX11_conclude 167 = .ok (.getfield 27, 3) := by decide +kernel
theorem dX11_conclude_170 : decode cX11_conclude 170 = .ok (.iconst 1, 1) := by decide +kernel
theorem dX11_conclude_171 : decode cX11_conclude 171 = .ok (.iload_n 2, 1) := by decide +kernel
theorem dX11_conclude_172 : decode cX11_conclude 172 = .ok (.invokevirtual 380, 3) := by decide +kernel
theorem dX11_conclude_175 : decode cX11_conclude 175 = .ok (.goto 56, 3) := by decide +kernel
theorem dX11_conclude_178 : decode cX11_conclude 178 = .ok (.iload_n 3, 1) := by decide +kernel
theorem dX11_conclude_179 : decode cX11_conclude 179 = .ok (.bipush 21, 2) := by decide +kernel
theorem dX11_conclude_181 : decode cX11_conclude 181 = .ok (.if_icmp .eq 9, 3) := by decide +kernel
theorem dX11_conclude_184 : decode cX11_conclude 184 = .ok (.iload_n 3, 1) := by decide +kernel
theorem dX11_conclude_185 : decode cX11_conclude 185 = .ok (.bipush 22, 2) := by decide +kernel
theorem dX11_conclude_187 : decode cX11_conclude 187 = .ok (.if_icmp .ne 44, 3) := by decide +kernel
theorem dX11_conclude_190 : decode cX11_conclude 190 = .ok (.aload_n 0, 1) := by decide +kernel
theorem dX11_conclude_191 : decode cX11_conclude 191 = .ok (.getfield 27, 3) := by decide +kernel
theorem dX11_conclude_194 : decode cX11_conclude 194 = .ok (.aload_n 0, 1) := by decide +kernel
theorem dX11_conclude_195 : decode cX11_conclude 195 = .ok (.getfield 115, 3) := by decide +kernel
theorem dX11_conclude_198 : decode cX11_conclude 198 = .ok (.aload_n 0, 1) := by decide +kernel
theorem dX11_conclude_199 : decode cX11_conclude 199 = .ok (.getfield 118, 3) := by decide +kernel
theorem dX11_conclude_202 : decode cX11_conclude 202 = .ok (.invokevirtual 384, 3) := by decide +kernel
theorem dX11_conclude_205 : decode cX11_conclude 205 = .ok (.aload_n 0, 1) := by decide +kernel
theorem dX11_conclude_206 : decode cX11_conclude 206 = .ok (.getfield 70, 3) := by decide +kernel
theorem dX11_conclude_209 : decode cX11_conclude 209 = .ok (.invokevirtual 387, 3) := by decide +kernel
theorem dX11_conclude_212 : decode cX11_conclude 212 = .ok (.aload_n 0, 1) := by decide +kernel
theorem dX11_conclude_213 : decode cX11_conclude 213 = .ok (.getfield 27, 3) := by decide +kernel
theorem dX11_conclude_216 : decode cX11_conclude 216 = .ok (.iload_n 3, 1) := by decide +kernel
theorem dX11_conclude_217 : decode cX11_conclude 217 = .ok (.bipush 22, 2) := by decide +kernel
theorem dX11_conclude_219 : decode cX11_conclude 219 = .ok (.if_icmp .ne 7, 3) := by decide +kernel
theorem dX11_conclude_222 : decode cX11_conclude 222 = .ok (.iconst 3, 1) := by decide +kernel
theorem dX11_conclude_223 : decode cX11_conclude 223 = .ok (.goto 4, 3) := by decide +kernel
theorem dX11_conclude_226 : decode cX11_conclude 226 = .ok (.iconst 2, 1) := by decide +kernel
theorem dX11_conclude_227 : decode cX11_conclude 227 = .ok (.iload_n 2, 1) := by decide +kernel
theorem dX11_conclude_228 : decode cX11_conclude 228 = .ok (.invokevirtual 380, 3) := by decide +kernel
theorem dX11_conclude_231 : decode cX11_conclude 231 = .ok (.iconst 0, 1) := by decide +kernel
theorem dX11_conclude_232 : decode cX11_conclude 232 = .ok (.ireturn, 1) := by decide +kernel

section
variable {p : Program} {l : Launch} {e : Env} {R : Room} {s : State} {m : MethodId} {args : Array Value} {below : List Frame} {meth : Method} {c : Code} {H : Heap} {locs : List Loc} {Qf : State → Prop}
variable {ls : Array Slot} {D : va_G} {ca : Nat → ClassId} {A : Nat → Prop} {ad : Nat → Nat → Nat} {u : iST}
def v_11_conclude_227 (Q : Int → iST → Prop) (x2 : Int) (y1 : Int) (u : iST) : Prop :=
  v_0_enter y1 x2 (fun u => 
  Q 0 u) u
set_option maxRecDepth 20000 in
set_option maxHeartbeats 4000000 in
theorem f_11_conclude_227 (X : yX RX11 p m c cX11_conclude 5 s args D ca ad A) (hRf : 8 ≤ R.frames) (hRl : 254 ≤ R.locals) {Q : Int → iST → Prop} (hret : ∀ (v : Int) (u : iST) (H : Heap) (locs : List Loc) (ls : Array Slot) (pc : Nat), inR v → Q v u → yW D ca A ad s H locs u → decode cX11_conclude pc = .ok (.ireturn, 1) → W p l e R s m args below meth c H locs 0 0 Qf (F0 m pc ls [.int (jI v)])) {x2 y1 : Int} (rx2 : inR x2) (ry1 : inR y1) (hw : yW D ca A ad s H locs u) (hl : lv_has ls 5 [(0, .ref (ad 0 9)), (2, .int (jI x2))]) (h : v_11_conclude_227 Q x2 y1 u) : W p l e R s m args below meth c H locs 0 0 Qf (F0 m 227 ls [.int (jI y1), .ref (ad 0 0)]) := by
  have hx := X.1.1
  have hb := X.1.2.1
  unfold v_11_conclude_227 at h
  refine lv_iload_n hx hb dX11_conclude_227 rfl (lv_at hl 1 rfl) ?_
  refine ycV (n := 2) (e_0_enter ry1 rx2 h) 0 0 (r := (RX0, TX0, 21)) rfl yG_11_380 yD_0_enter X hw rfl yGo_0 (Nat.le_trans (Nat.le_of_ble_eq_true rfl) hRf) (Nat.le_trans (Nat.le_of_ble_eq_true rfl) hRl) rfl hl.1 (Nat.le_of_ble_eq_true rfl) rfl dX11_conclude_228 (fun u H locs h hw => ?_)
  refine lv_iconst hx hb dX11_conclude_231 (v := jI 0) rfl ?_
  exact hret _ _ _ _ _ _ (by decide) h hw dX11_conclude_232

def v_11_conclude_190 (Q : Int → iST → Prop) (x2 : Int) (x3 : Int) (u : iST) : Prop :=
  rd (u.1 44) (fun v5 => 
  rd (u.1 45) (fun v6 => 
  v_0_addTheorem v5 v6 (fun u => 
  v_6_learn (fun u => 
  br (x3 ≠ 22) (
    v_11_conclude_227 Q x2 2 u) (
    v_11_conclude_227 Q x2 3 u)) u) u))
set_option maxRecDepth 20000 in
set_option maxHeartbeats 4000000 in
theorem f_11_conclude_190 (X : yX RX11 p m c cX11_conclude 5 s args D ca ad A) (hRf : 8 ≤ R.frames) (hRl : 254 ≤ R.locals) {Q : Int → iST → Prop} (hret : ∀ (v : Int) (u : iST) (H : Heap) (locs : List Loc) (ls : Array Slot) (pc : Nat), inR v → Q v u → yW D ca A ad s H locs u → decode cX11_conclude pc = .ok (.ireturn, 1) → W p l e R s m args below meth c H locs 0 0 Qf (F0 m pc ls [.int (jI v)])) {x2 x3 : Int} (rx2 : inR x2) (rx3 : inR x3) (hw : yW D ca A ad s H locs u) (hl : lv_has ls 5 [(0, .ref (ad 0 9)), (2, .int (jI x2)), (3, .int (jI x3))]) (h : v_11_conclude_190 Q x2 x3 u) : W p l e R s m args below meth c H locs 0 0 Qf (F0 m 190 ls []) := by
  have hx := X.1.1
  have hb := X.1.2.1
  unfold v_11_conclude_190 at h
  refine lv_aload_n hx hb dX11_conclude_190 rfl (lv_at hl 0 rfl) ?_
  refine yg_11_27 X hw dX11_conclude_191 ?_
  refine lv_aload_n hx hb dX11_conclude_194 rfl (lv_at hl 0 rfl) ?_
  refine yg_11_115 X hw dX11_conclude_195 h (fun v5 rv5 h => ?_)
  refine lv_aload_n hx hb dX11_conclude_198 rfl (lv_at hl 0 rfl) ?_
  refine yg_11_118 X hw dX11_conclude_199 h (fun v6 rv6 h => ?_)
  refine ycV (n := 2) (e_0_addTheorem rv5 rv6 h) 0 0 (r := (RX0, TX0, 21)) rfl yG_11_384 yD_0_addTheorem X hw rfl yGo_0 (Nat.le_trans (Nat.le_of_ble_eq_true rfl) hRf) (Nat.le_trans (Nat.le_of_ble_eq_true rfl) hRl) rfl hl.1 (Nat.le_of_ble_eq_true rfl) rfl dX11_conclude_202 (fun u H locs h hw => ?_)
  refine lv_aload_n hx hb dX11_conclude_205 rfl (lv_at hl 0 rfl) ?_
  refine yg_11_70 X hw dX11_conclude_206 ?_
  refine ycV (n := 0) (e_6_learn h) 6 5 (r := (RX6, TX6, 14)) rfl yG_11_387 yD_6_learn X hw rfl yGo_6 (Nat.le_trans (Nat.le_of_ble_eq_true rfl) hRf) (Nat.le_trans (Nat.le_of_ble_eq_true rfl) hRl) rfl hl.1 (Nat.le_of_ble_eq_true rfl) rfl dX11_conclude_209 (fun u H locs h hw => ?_)
  refine lv_aload_n hx hb dX11_conclude_212 rfl (lv_at hl 0 rfl) ?_
  refine yg_11_27 X hw dX11_conclude_213 ?_
  refine lv_iload_n hx hb dX11_conclude_216 rfl (lv_at hl 2 rfl) ?_
  refine lv_bipush hx hb dX11_conclude_217 (v := jI 22) rfl ?_
  refine k_icmp_ne hx hb rx3 (by decide) dX11_conclude_219 (tgt := 226) rfl h (fun h => ?_) (fun h => ?_)
  · refine lv_iconst hx hb dX11_conclude_226 (v := jI 2) rfl ?_
    exact f_11_conclude_227 X hRf hRl hret rx2 (by decide) hw (lv_sub hl [0, 1] rfl) h
  · refine lv_iconst hx hb dX11_conclude_222 (v := jI 3) rfl ?_
    refine lv_goto hx hb dX11_conclude_223 (tgt := 227) rfl ?_
    exact f_11_conclude_227 X hRf hRl hret rx2 (by decide) hw (lv_sub hl [0, 1] rfl) h

def v_11_conclude_119 (Q : Int → iST → Prop) (x1 : Int) (x2 : Int) (x3 : Int) (u : iST) : Prop :=
  br (x3 ≠ 20) (
    br (x3 = 21) (
      v_11_conclude_190 Q x2 x3 u) (
      br (x3 ≠ 22) (
        Q 0 u) (
        v_11_conclude_190 Q x2 x3 u))) (
    v_7_item x1 2 (fun v10 u => 
    rd (u.1 44) (fun v11 => 
    v_7_lengthOf v10 (fun v12 u => 
    rd (u.1 45) (fun v13 => 
    rd (u.1 46) (fun v14 => 
    v_0_addFunction v11 v10 v12 v13 v14 (fun u => 
    v_0_enter 1 x2 (fun u => 
    Q 0 u) u) u))) u)) u)
set_option maxRecDepth 20000 in
set_option maxHeartbeats 4000000 in
theorem f_11_conclude_119 (X : yX RX11 p m c cX11_conclude 5 s args D ca ad A) (hRf : 8 ≤ R.frames) (hRl : 254 ≤ R.locals) {Q : Int → iST → Prop} (hret : ∀ (v : Int) (u : iST) (H : Heap) (locs : List Loc) (ls : Array Slot) (pc : Nat), inR v → Q v u → yW D ca A ad s H locs u → decode cX11_conclude pc = .ok (.ireturn, 1) → W p l e R s m args below meth c H locs 0 0 Qf (F0 m pc ls [.int (jI v)])) {x1 x2 x3 : Int} (rx1 : inR x1) (rx2 : inR x2) (rx3 : inR x3) (hw : yW D ca A ad s H locs u) (hl : lv_has ls 5 [(0, .ref (ad 0 9)), (1, .int (jI x1)), (2, .int (jI x2)), (3, .int (jI x3))]) (h : v_11_conclude_119 Q x1 x2 x3 u) : W p l e R s m args below meth c H locs 0 0 Qf (F0 m 119 ls []) := by
  have hx := X.1.1
  have hb := X.1.2.1
  unfold v_11_conclude_119 at h
  refine lv_iload_n hx hb dX11_conclude_119 rfl (lv_at hl 3 rfl) ?_
  refine lv_bipush hx hb dX11_conclude_120 (v := jI 20) rfl ?_
  refine k_icmp_ne hx hb rx3 (by decide) dX11_conclude_122 (tgt := 178) rfl h (fun h => ?_) (fun h => ?_)
  · refine lv_iload_n hx hb dX11_conclude_178 rfl (lv_at hl 3 rfl) ?_
    refine lv_bipush hx hb dX11_conclude_179 (v := jI 21) rfl ?_
    refine k_icmp_eq hx hb rx3 (by decide) dX11_conclude_181 (tgt := 190) rfl h (fun h => ?_) (fun h => ?_)
    · exact f_11_conclude_190 X hRf hRl hret rx2 rx3 hw (lv_sub hl [0, 2, 3] rfl) h
    · refine lv_iload_n hx hb dX11_conclude_184 rfl (lv_at hl 3 rfl) ?_
      refine lv_bipush hx hb dX11_conclude_185 (v := jI 22) rfl ?_
      refine k_icmp_ne hx hb rx3 (by decide) dX11_conclude_187 (tgt := 231) rfl h (fun h => ?_) (fun h => ?_)
      · refine lv_iconst hx hb dX11_conclude_231 (v := jI 0) rfl ?_
        exact hret _ _ _ _ _ _ (by decide) h hw dX11_conclude_232
      · exact f_11_conclude_190 X hRf hRl hret rx2 rx3 hw (lv_sub hl [0, 2, 3] rfl) h
  · refine lv_aload_n hx hb dX11_conclude_125 rfl (lv_at hl 0 rfl) ?_
    refine yg_11_14 X hw dX11_conclude_126 ?_
    refine lv_iload_n hx hb dX11_conclude_129 rfl (lv_at hl 1 rfl) ?_
    refine lv_iconst hx hb dX11_conclude_130 (v := jI 2) rfl ?_
    refine ycI (n := 2) (e_7_item rx1 (by decide) h) 7 6 (r := (RX7, TX7, 9)) rfl yG_11_173 yD_7_item X hw rfl yGo_7 (Nat.le_trans (Nat.le_of_ble_eq_true rfl) hRf) (Nat.le_trans (Nat.le_of_ble_eq_true rfl) hRl) rfl hl.1 (Nat.le_of_ble_eq_true rfl) rfl dX11_conclude_131 (fun v10 u H locs rv10 h hw => ?_)
    refine lv_istore hx hb dX11_conclude_134 hl (by decide) rfl (fun ls hl => ?_)
    have hl : lv_has ls 5 [(4, .int (jI v10)), (0, .ref (ad 0 9)), (1, .int (jI x1)), (2, .int (jI x2)), (3, .int (jI x3))] := hl
    refine lv_aload_n hx hb dX11_conclude_136 rfl (lv_at hl 1 rfl) ?_
    refine yg_11_27 X hw dX11_conclude_137 ?_
    refine lv_aload_n hx hb dX11_conclude_140 rfl (lv_at hl 1 rfl) ?_
    refine yg_11_115 X hw dX11_conclude_141 h (fun v11 rv11 h => ?_)
    refine lv_iload hx hb dX11_conclude_144 (lv_at hl 0 rfl) ?_
    refine lv_aload_n hx hb dX11_conclude_146 rfl (lv_at hl 1 rfl) ?_
    refine yg_11_14 X hw dX11_conclude_147 ?_
    refine lv_iload hx hb dX11_conclude_150 (lv_at hl 0 rfl) ?_
    refine ycI (n := 1) (e_7_lengthOf rv10 h) 7 6 (r := (RX7, TX7, 9)) rfl yG_11_278 yD_7_lengthOf X hw rfl yGo_7 (Nat.le_trans (Nat.le_of_ble_eq_true rfl) hRf) (Nat.le_trans (Nat.le_of_ble_eq_true rfl) hRl) rfl hl.1 (Nat.le_of_ble_eq_true rfl) rfl dX11_conclude_152 (fun v12 u H locs rv12 h hw => ?_)
    refine lv_aload_n hx hb dX11_conclude_155 rfl (lv_at hl 1 rfl) ?_
    refine yg_11_118 X hw dX11_conclude_156 h (fun v13 rv13 h => ?_)
    refine lv_aload_n hx hb dX11_conclude_159 rfl (lv_at hl 1 rfl) ?_
    refine yg_11_121 X hw dX11_conclude_160 h (fun v14 rv14 h => ?_)
    refine ycV (n := 5) (e_0_addFunction rv11 rv10 rv12 rv13 rv14 h) 0 0 (r := (RX0, TX0, 21)) rfl yG_11_376 yD_0_addFunction X hw rfl yGo_0 (Nat.le_trans (Nat.le_of_ble_eq_true rfl) hRf) (Nat.le_trans (Nat.le_of_ble_eq_true rfl) hRl) rfl hl.1 (Nat.le_of_ble_eq_true rfl) rfl dX11_conclude_163 (fun u H locs h hw => ?_)
    refine lv_aload_n hx hb dX11_conclude_166 rfl (lv_at hl 1 rfl) ?_
    refine yg_11_27 X hw dX11_conclude_167 ?_
    refine lv_iconst hx hb dX11_conclude_170 (v := jI 1) rfl ?_
    refine lv_iload_n hx hb dX11_conclude_171 rfl (lv_at hl 3 rfl) ?_
    refine ycV (n := 2) (e_0_enter (by decide) rx2 h) 0 0 (r := (RX0, TX0, 21)) rfl yG_11_380 yD_0_enter X hw rfl yGo_0 (Nat.le_trans (Nat.le_of_ble_eq_true rfl) hRf) (Nat.le_trans (Nat.le_of_ble_eq_true rfl) hRl) rfl hl.1 (Nat.le_of_ble_eq_true rfl) rfl dX11_conclude_172 (fun u H locs h hw => ?_)
    refine lv_goto hx hb dX11_conclude_175 (tgt := 231) rfl ?_
    refine lv_iconst hx hb dX11_conclude_231 (v := jI 0) rfl ?_
    exact hret _ _ _ _ _ _ (by decide) h hw dX11_conclude_232

def v_11_conclude_88 (Q : Int → iST → Prop) (x1 : Int) (x2 : Int) (x3 : Int) (y1 : Int) (u : iST) : Prop :=
  zt y1 (sw (iI u 50 y1) (fun u => 
  br (x3 ≠ 22) (
    v_11_conclude_119 Q x1 x2 x3 u) (
    v_11_shownWrong (fun v17 u => 
    br (v17 = (-1)) (
      v_11_conclude_119 Q x1 x2 x3 u) (
      v_11_shownWrong (fun v18 u => 
      v_9_write 0 v18 (fun u => 
      Q 7 u) u) u)) u)))
set_option maxRecDepth 20000 in
set_option maxHeartbeats 4000000 in
theorem f_11_conclude_88 (X : yX RX11 p m c cX11_conclude 5 s args D ca ad A) (hRf : 8 ≤ R.frames) (hRl : 254 ≤ R.locals) {Q : Int → iST → Prop} (hret : ∀ (v : Int) (u : iST) (H : Heap) (locs : List Loc) (ls : Array Slot) (pc : Nat), inR v → Q v u → yW D ca A ad s H locs u → decode cX11_conclude pc = .ok (.ireturn, 1) → W p l e R s m args below meth c H locs 0 0 Qf (F0 m pc ls [.int (jI v)])) {x1 x2 x3 y1 : Int} (rx1 : inR x1) (rx2 : inR x2) (rx3 : inR x3) (ry1 : inR y1) (hw : yW D ca A ad s H locs u) (hl : lv_has ls 5 [(0, .ref (ad 0 9)), (1, .int (jI x1)), (2, .int (jI x2)), (3, .int (jI x3))]) (h : v_11_conclude_88 Q x1 x2 x3 y1 u) : W p l e R s m args below meth c H locs 0 0 Qf (F0 m 88 ls [.int (jI y1), .ref (ad 0 9)]) := by
  have hx := X.1.1
  have hb := X.1.2.1
  unfold v_11_conclude_88 at h
  refine yp_11_133 X hw dX11_conclude_88 h (fun H locs u hw h => ?_)
  refine lv_iload_n hx hb dX11_conclude_91 rfl (lv_at hl 3 rfl) ?_
  refine lv_bipush hx hb dX11_conclude_92 (v := jI 22) rfl ?_
  refine k_icmp_ne hx hb rx3 (by decide) dX11_conclude_94 (tgt := 119) rfl h (fun h => ?_) (fun h => ?_)
  · exact f_11_conclude_119 X hRf hRl hret rx1 rx2 rx3 hw hl h
  · refine lv_aload_n hx hb dX11_conclude_97 rfl (lv_at hl 0 rfl) ?_
    refine ycI (n := 0) (e_11_shownWrong h) 11 9 (r := (RX11, TX11, 21)) rfl yG_11_373 yD_11_shownWrong X hw rfl yGo_11 (Nat.le_trans (Nat.le_of_ble_eq_true rfl) hRf) (Nat.le_trans (Nat.le_of_ble_eq_true rfl) hRl) rfl hl.1 (Nat.le_of_ble_eq_true rfl) rfl dX11_conclude_98 (fun v17 u H locs rv17 h hw => ?_)
    refine lv_iconst hx hb dX11_conclude_101 (v := jI (-1)) rfl ?_
    refine k_icmp_eq hx hb rv17 (by decide) dX11_conclude_102 (tgt := 119) rfl h (fun h => ?_) (fun h => ?_)
    · exact f_11_conclude_119 X hRf hRl hret rx1 rx2 rx3 hw hl h
    · refine lv_aload_n hx hb dX11_conclude_105 rfl (lv_at hl 0 rfl) ?_
      refine yg_11_45 X hw dX11_conclude_106 ?_
      refine lv_aload_n hx hb dX11_conclude_109 rfl (lv_at hl 0 rfl) ?_
      refine ycI (n := 0) (e_11_shownWrong h) 11 9 (r := (RX11, TX11, 21)) rfl yG_11_373 yD_11_shownWrong X hw rfl yGo_11 (Nat.le_trans (Nat.le_of_ble_eq_true rfl) hRf) (Nat.le_trans (Nat.le_of_ble_eq_true rfl) hRl) rfl hl.1 (Nat.le_of_ble_eq_true rfl) rfl dX11_conclude_110 (fun v18 u H locs rv18 h hw => ?_)
      refine ycV (n := 1) (e_9_write (by decide) rv18 h) 9 (2041 + (0 : Int).toNat) (r := (RX9, TX9, 4)) rfl yG_11_246 yD_9_write X hw rfl (yGf_scribe (toNat_lt (by decide))) (Nat.le_trans (Nat.le_of_ble_eq_true rfl) hRf) (Nat.le_trans (Nat.le_of_ble_eq_true rfl) hRl) rfl hl.1 (Nat.le_of_ble_eq_true rfl) rfl dX11_conclude_113 (fun u H locs h hw => ?_)
      refine lv_bipush hx hb dX11_conclude_116 (v := jI 7) rfl ?_
      exact hret _ _ _ _ _ _ (by decide) h hw dX11_conclude_118

def v_11_conclude (a0 : Int) (a1 : Int) (Q : Int → iST → Prop) (u : iST) : Prop :=
  v_7_left a0 (fun v1 u => 
  rd (u.1 32) (fun v2 => 
  br (v2 = 0) (
    rd (u.1 15) (fun v3 => 
    br (v3 ≤ 0) (
      rd (u.1 13) (fun v4 => 
      br (v4 ≤ 0) (
        v_11_conclude_88 Q a0 a1 v1 0 u) (
        v_11_conclude_88 Q a0 a1 v1 1 u))) (
      v_4_listOfLeft (fun v20 u => 
      v_9_write 0 v20 (fun u => 
      br (v1 ≠ 20) (
        Q 6 u) (
        Q 5 u)) u) u))) (
    v_9_clear 0 (fun u => 
    v_4_begin (fun u => 
    Q 4 u) u) u))) u
set_option maxRecDepth 20000 in
set_option maxHeartbeats 4000000 in
theorem f_11_conclude_s (X : yX RX11 p m c cX11_conclude 5 s args D ca ad A) (hRf : 8 ≤ R.frames) (hRl : 254 ≤ R.locals) {Q : Int → iST → Prop} (hret : ∀ (v : Int) (u : iST) (H : Heap) (locs : List Loc) (ls : Array Slot) (pc : Nat), inR v → Q v u → yW D ca A ad s H locs u → decode cX11_conclude pc = .ok (.ireturn, 1) → W p l e R s m args below meth c H locs 0 0 Qf (F0 m pc ls [.int (jI v)])) {a0 a1 : Int} (ra0 : inR a0) (ra1 : inR a1) (hw : yW D ca A ad s H locs u) (hl : lv_has ls 5 [(0, .ref (ad 0 9)), (1, .int (jI a0)), (2, .int (jI a1))]) (h : v_11_conclude a0 a1 Q u) : W p l e R s m args below meth c H locs 0 0 Qf (F0 m 0 ls []) := by
  have hx := X.1.1
  have hb := X.1.2.1
  unfold v_11_conclude at h
  refine lv_aload_n hx hb dX11_conclude_0 rfl (lv_at hl 0 rfl) ?_
  refine yg_11_14 X hw dX11_conclude_1 ?_
  refine lv_iload_n hx hb dX11_conclude_4 rfl (lv_at hl 1 rfl) ?_
  refine ycI (n := 1) (e_7_left ra0 h) 7 6 (r := (RX7, TX7, 9)) rfl yG_11_170 yD_7_left X hw rfl yGo_7 (Nat.le_trans (Nat.le_of_ble_eq_true rfl) hRf) (Nat.le_trans (Nat.le_of_ble_eq_true rfl) hRl) rfl hl.1 (Nat.le_of_ble_eq_true rfl) rfl dX11_conclude_5 (fun v1 u H locs rv1 h hw => ?_)
  refine lv_istore_n hx hb dX11_conclude_8 rfl hl (by decide) rfl (fun ls hl => ?_)
  have hl : lv_has ls 5 [(3, .int (jI v1)), (0, .ref (ad 0 9)), (1, .int (jI a0)), (2, .int (jI a1))] := hl
  refine lv_aload_n hx hb dX11_conclude_9 rfl (lv_at hl 1 rfl) ?_
  refine yg_11_14 X hw dX11_conclude_10 ?_
  refine yg_11_157 X hw dX11_conclude_13 h (fun v2 rv2 h => ?_)
  refine k_if_eq hx hb rv2 dX11_conclude_16 (tgt := 35) rfl h (fun h => ?_) (fun h => ?_)
  · refine lv_aload_n hx hb dX11_conclude_35 rfl (lv_at hl 1 rfl) ?_
    refine yg_11_88 X hw dX11_conclude_36 ?_
    refine yg_11_199 X hw dX11_conclude_39 h (fun v3 rv3 h => ?_)
    refine k_if_le hx hb rv3 dX11_conclude_42 (tgt := 72) rfl h (fun h => ?_) (fun h => ?_)
    · refine lv_aload_n hx hb dX11_conclude_72 rfl (lv_at hl 1 rfl) ?_
      refine lv_aload_n hx hb dX11_conclude_73 rfl (lv_at hl 1 rfl) ?_
      refine yg_11_88 X hw dX11_conclude_74 ?_
      refine yg_11_370 X hw dX11_conclude_77 h (fun v4 rv4 h => ?_)
      refine k_if_le hx hb rv4 dX11_conclude_80 (tgt := 87) rfl h (fun h => ?_) (fun h => ?_)
      · refine lv_iconst hx hb dX11_conclude_87 (v := jI 0) rfl ?_
        exact f_11_conclude_88 X hRf hRl hret ra0 ra1 rv1 (by decide) hw (lv_sub hl [1, 2, 3, 0] rfl) h
      · refine lv_iconst hx hb dX11_conclude_83 (v := jI 1) rfl ?_
        refine lv_goto hx hb dX11_conclude_84 (tgt := 88) rfl ?_
        exact f_11_conclude_88 X hRf hRl hret ra0 ra1 rv1 (by decide) hw (lv_sub hl [1, 2, 3, 0] rfl) h
    · refine lv_aload_n hx hb dX11_conclude_45 rfl (lv_at hl 1 rfl) ?_
      refine yg_11_45 X hw dX11_conclude_46 ?_
      refine lv_aload_n hx hb dX11_conclude_49 rfl (lv_at hl 1 rfl) ?_
      refine yg_11_88 X hw dX11_conclude_50 ?_
      refine ycI (n := 0) (e_4_listOfLeft h) 4 3 (r := (RX4, TX4, 11)) rfl yG_11_366 yD_4_listOfLeft X hw rfl yGo_4 (Nat.le_trans (Nat.le_of_ble_eq_true rfl) hRf) (Nat.le_trans (Nat.le_of_ble_eq_true rfl) hRl) rfl hl.1 (Nat.le_of_ble_eq_true rfl) rfl dX11_conclude_53 (fun v20 u H locs rv20 h hw => ?_)
      refine ycV (n := 1) (e_9_write (by decide) rv20 h) 9 (2041 + (0 : Int).toNat) (r := (RX9, TX9, 4)) rfl yG_11_246 yD_9_write X hw rfl (yGf_scribe (toNat_lt (by decide))) (Nat.le_trans (Nat.le_of_ble_eq_true rfl) hRf) (Nat.le_trans (Nat.le_of_ble_eq_true rfl) hRl) rfl hl.1 (Nat.le_of_ble_eq_true rfl) rfl dX11_conclude_56 (fun u H locs h hw => ?_)
      refine lv_iload_n hx hb dX11_conclude_59 rfl (lv_at hl 0 rfl) ?_
      refine lv_bipush hx hb dX11_conclude_60 (v := jI 20) rfl ?_
      refine k_icmp_ne hx hb rv1 (by decide) dX11_conclude_62 (tgt := 69) rfl h (fun h => ?_) (fun h => ?_)
      · refine lv_bipush hx hb dX11_conclude_69 (v := jI 6) rfl ?_
        exact hret _ _ _ _ _ _ (by decide) h hw dX11_conclude_71
      · refine lv_iconst hx hb dX11_conclude_65 (v := jI 5) rfl ?_
        refine lv_goto hx hb dX11_conclude_66 (tgt := 71) rfl ?_
        exact hret _ _ _ _ _ _ (by decide) h hw dX11_conclude_71
  · refine lv_aload_n hx hb dX11_conclude_19 rfl (lv_at hl 1 rfl) ?_
    refine yg_11_45 X hw dX11_conclude_20 ?_
    refine ycV (n := 0) (e_9_clear (by decide) h) 9 (2041 + (0 : Int).toNat) (r := (RX9, TX9, 4)) rfl yG_11_243 yD_9_clear X hw rfl (yGf_scribe (toNat_lt (by decide))) (Nat.le_trans (Nat.le_of_ble_eq_true rfl) hRf) (Nat.le_trans (Nat.le_of_ble_eq_true rfl) hRl) rfl hl.1 (Nat.le_of_ble_eq_true rfl) rfl dX11_conclude_23 (fun u H locs h hw => ?_)
    refine lv_aload_n hx hb dX11_conclude_26 rfl (lv_at hl 1 rfl) ?_
    refine yg_11_88 X hw dX11_conclude_27 ?_
    refine ycV (n := 0) (e_4_begin h) 4 3 (r := (RX4, TX4, 11)) rfl yG_11_266 yD_4_begin X hw rfl yGo_4 (Nat.le_trans (Nat.le_of_ble_eq_true rfl) hRf) (Nat.le_trans (Nat.le_of_ble_eq_true rfl) hRl) rfl hl.1 (Nat.le_of_ble_eq_true rfl) rfl dX11_conclude_30 (fun u H locs h hw => ?_)
    refine lv_iconst hx hb dX11_conclude_33 (v := jI 4) rfl ?_
    exact hret _ _ _ _ _ _ (by decide) h hw dX11_conclude_34

end
theorem e_11_conclude {l : Launch} {a0 : Int} {a1 : Int} (ra0 : inR a0) (ra1 : inR a1) {Q : Int → iST → Prop} {u : iST} (h : v_11_conclude a0 a1 Q u) : yMI l yX11_conclude (.code yX11_conclude cX11_conclude 5 (some .int) :: wsN) { frames := 8, cells := 0, slots := 0, locals := 254 } (fun ad => [.ref (ad 0 9), .int (jI a0), .int (jI a1)]) Q u := yMI_of (own := RX11) rfl (by decide +kernel) (fun _ => Nat.le_of_ble_eq_true rfl) (fun X hRf hRl hret hw hl => f_11_conclude_s X hRf hRl hret ra0 ra1 hw hl h)
