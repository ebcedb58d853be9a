/-! ProofHouse$Rewriter.askInstead -/
theorem dX6_askInstead_0 : decode cX6_askInstead 0 = .ok (.aload_n 1, 1) := by decide +kernel
theorem dX6_askInstead_1 : decode cX6_askInstead 1 = .ok (.iconst 3, 1) := by decide +kernel
theorem dX6_askInstead_2 : decode cX6_askInstead 2 = .ok (.iconst 1, 1) := by decide +kernel
theorem dX6_askInstead_3 : decode cX6_askInstead 3 = .ok (.iastore, 1) := by decide +kernel
theorem dX6_askInstead_4 : decode cX6_askInstead 4 = .ok (.aload_n 0, 1) := by decide +kernel
theorem dX6_askInstead_5 : decode cX6_askInstead 5 = .ok (.getfield 39, 3) := by decide +kernel
theorem dX6_askInstead_8 : decode cX6_askInstead 8 = .ok (.getfield 77, 3) := by decide +kernel
theorem dX6_askInstead_11 : decode cX6_askInstead 11 = .ok (.ifCond .ne 14, 3) := by decide +kernel
theorem dX6_askInstead_14 : decode cX6_askInstead 14 = .ok (.aload_n 0, 1) := by decide +kernel
theorem dX6_askInstead_15 : decode cX6_askInstead 15 = .ok (.iload_n 2, 1) := by decide +kernel
theorem dX6_askInstead_16 : decode cX6_askInstead 16 = .ok (.aload_n 1, 1) := by decide +kernel
theorem dX6_askInstead_17 : decode cX6_askInstead 17 = .ok (.iconst 1, 1) := by decide +kernel
theorem dX6_askInstead_18 : decode cX6_askInstead 18 = .ok (.iaload, 1) := by decide +kernel
theorem dX6_askInstead_19 : decode cX6_askInstead 19 = .ok (.aload_n 1, 1) := by decide +kernel
theorem dX6_askInstead_20 : decode cX6_askInstead 20 = .ok (.iconst 2, 1) := by decide +kernel
theorem dX6_askInstead_21 : decode cX6_askInstead 21 = .ok (.iaload, 1) := by decide +kernel
theorem dX6_askInstead_22 : decode cX6_askInstead 22 = .ok (.invokevirtual 72, 3) := by decide +kernel
theorem dX6_askInstead_25 : decode cX6_askInstead 25 = .ok (.return_, 1) := by decide +kernel

section
variable {p : Program} {l : Launch} {e : Env} {R : Room} {s : State} {m : MethodId} {args : Array Value} {below : List Frame} {meth : Method} {c : Code} {H : Heap} {locs : List Loc} {Qf : State → Prop}
variable {ls : Array Slot} {D : va_G} {ca : Nat → ClassId} {A : Nat → Prop} {ad : Nat → Nat → Nat} {u : iST}
def v_6_askInstead (a0 : Int) (a1 : Int) (Q : iST → Prop) (u : iST) : Prop :=
  bd 3 17 (sw (iA u 51 (17 * a0 + 3) 1) (fun u => 
  rd (u.1 32) (fun v1 => 
  br (v1 ≠ 0) (
    Q u) (
    bd 1 17 (rd (u.2.1 51 (17 * a0 + 1)) (fun v2 => 
    bd 2 17 (rd (u.2.1 51 (17 * a0 + 2)) (fun v3 => 
    v_6_ask a1 v2 v3 (fun u => 
    Q u) u))))))))
set_option maxRecDepth 20000 in
set_option maxHeartbeats 4000000 in
theorem f_6_askInstead_s (X : yX RX6 p m c cX6_askInstead 3 s args D ca ad A) (hRf : 2 ≤ R.frames) (hRl : 84 ≤ R.locals) {Q : iST → Prop} (hret : ∀ (u : iST) (H : Heap) (locs : List Loc) (ls : Array Slot) (pc : Nat), Q u → yW D ca A ad s H locs u → decode cX6_askInstead pc = .ok (.return_, 1) → W p l e R s m args below meth c H locs 0 0 Qf (F0 m pc ls [])) {a0 a1 : Int} (ra0 : (0 ≤ a0 ∧ a0 < 60)) (ra1 : inR a1) (hw : yW D ca A ad s H locs u) (hl : lv_has ls 3 [(0, .ref (ad 0 5)), (1, .ref (ad 7 a0.toNat)), (2, .int (jI a1))]) (h : v_6_askInstead a0 a1 Q u) : W p l e R s m args below meth c H locs 0 0 Qf (F0 m 0 ls []) := by
  have hx := X.1.1
  have hb := X.1.2.1
  unfold v_6_askInstead at h
  refine lv_aload_n hx hb dX6_askInstead_0 rfl (lv_at hl 1 rfl) ?_
  refine lv_iconst hx hb dX6_askInstead_1 (v := jI 3) rfl ?_
  refine lv_iconst hx hb dX6_askInstead_2 (v := jI 1) rfl ?_
  refine yft_frames X hw ra0 (by decide) (by decide) dX6_askInstead_3 h (fun H locs u hw h => ?_)
  refine lv_aload_n hx hb dX6_askInstead_4 rfl (lv_at hl 0 rfl) ?_
  refine yg_6_39 X hw dX6_askInstead_5 ?_
  refine yg_6_77 X hw dX6_askInstead_8 h (fun v1 rv1 h => ?_)
  refine k_if_ne hx hb rv1 dX6_askInstead_11 (tgt := 25) rfl h (fun h => ?_) (fun h => ?_)
  · exact hret _ _ _ _ _ h hw dX6_askInstead_25
  · refine lv_aload_n hx hb dX6_askInstead_14 rfl (lv_at hl 0 rfl) ?_
    refine lv_iload_n hx hb dX6_askInstead_15 rfl (lv_at hl 2 rfl) ?_
    refine lv_aload_n hx hb dX6_askInstead_16 rfl (lv_at hl 1 rfl) ?_
    refine lv_iconst hx hb dX6_askInstead_17 (v := jI 1) rfl ?_
    refine yfl_frames X hw ra0 (by decide) dX6_askInstead_18 h (fun v2 rv2 h => ?_)
    refine lv_aload_n hx hb dX6_askInstead_19 rfl (lv_at hl 1 rfl) ?_
    refine lv_iconst hx hb dX6_askInstead_20 (v := jI 2) rfl ?_
    refine yfl_frames X hw ra0 (by decide) dX6_askInstead_21 h (fun v3 rv3 h => ?_)
    refine ycV (n := 3) (e_6_ask ra1 rv2 rv3 h) 6 5 (r := (RX6, TX6, 14)) rfl yG_6_72 yD_6_ask X hw rfl yGo_6 (Nat.le_trans (Nat.le_of_ble_eq_true rfl) hRf) (Nat.le_trans (Nat.le_of_ble_eq_true rfl) hRl) rfl hl.1 (Nat.le_of_ble_eq_true rfl) rfl dX6_askInstead_22 (fun u H locs h hw => ?_)
    exact hret _ _ _ _ _ h hw dX6_askInstead_25

end
theorem e_6_askInstead {l : Launch} {a0 : Int} {a1 : Int} (ra0 : (0 ≤ a0 ∧ a0 < 60)) (ra1 : inR a1) {Q : iST → Prop} {u : iST} (h : v_6_askInstead a0 a1 Q u) : yMV l yX6_askInstead (.code yX6_askInstead cX6_askInstead 3 none :: wsN) { frames := 2, cells := 0, slots := 0, locals := 84 } (fun ad => [.ref (ad 0 5), .ref (ad 7 a0.toNat), .int (jI a1)]) Q u := yMV_of (own := RX6) rfl (by decide +kernel) (fun _ => Nat.le_of_ble_eq_true rfl) (fun X hRf hRl hret hw hl => f_6_askInstead_s X hRf hRl hret ra0 ra1 hw hl h)

/-! ProofHouse$Rewriter.start -/
theorem dX6_start_0 : decode cX6_start 0 = .ok (.aload_n 1, 1) := by decide +kernel
theorem dX6_start_1 : decode cX6_start 1 = .ok (.iconst 0, 1) := by decide +kernel
theorem dX6_start_2 : decode cX6_start 2 = .ok (.iaload, 1) := by decide +kernel
theorem dX6_start_3 : decode cX6_start 3 = .ok (.istore_n 2, 1) := by decide +kernel
theorem dX6_start_4 : decode cX6_start 4 = .ok (.aload_n 0, 1) := by decide +kernel
theorem dX6_start_5 : decode cX6_start 5 = .ok (.getfield 39, 3) := by decide +kernel
theorem dX6_start_8 : decode cX6_start 8 = .ok (.iload_n 2, 1) := by decide +kernel
theorem dX6_start_9 : decode cX6_start 9 = .ok (.invokevirtual 165, 3) := by decide +kernel
theorem dX6_start_12 : decode cX6_start 12 = .ok (.ifCond .eq 11, 3) := by decide +kernel
theorem dX6_start_15 : decode cX6_start 15 = .ok (.aload_n 0, 1) := by decide +kernel
theorem dX6_start_16 : decode cX6_start 16 = .ok (.iload_n 2, 1) := by decide +kernel
theorem dX6_start_17 : decode cX6_start 17 = .ok (.invokevirtual 96, 3) := by decide +kernel
theorem dX6_start_20 : decode cX6_start 20 = .ok (.goto 187, 3) := by decide +kernel
theorem dX6_start_23 : decode cX6_start 23 = .ok (.aload_n 0, 1) := by decide +kernel
theorem dX6_start_24 : decode cX6_start 24 = .ok (.getfield 39, 3) := by decide +kernel
theorem dX6_start_27 : decode cX6_start 27 = .ok (.iload_n 2, 1) := by decide +kernel
theorem dX6_start_28 : decode cX6_start 28 = .ok (.invokevirtual 169, 3) := by decide +kernel
theorem dX6_start_31 : decode cX6_start 31 = .ok (.ifCond .ne 21, 3) := by decide +kernel
theorem dX6_start_34 : decode cX6_start 34 = .ok (.aload_n 0, 1) := by decide +kernel
theorem dX6_start_35 : decode cX6_start 35 = .ok (.aload_n 0, 1) := by decide +kernel
theorem dX6_start_36 : decode cX6_start 36 = .ok (.iload_n 2, 1) := by decide +kernel
theorem dX6_start_37 : decode cX6_start 37 = .ok (.aload_n 1, 1) := by decide +kernel
theorem dX6_start_38 : decode cX6_start 38 = .ok (.iconst 1, 1) := by decide +kernel
theorem dX6_start_39 : decode cX6_start 39 = .ok (.iaload, 1) := by decide +kernel
theorem dX6_start_40 : decode cX6_start 40 = .ok (.aload_n 1, 1) := by decide +kernel
theorem dX6_start_41 : decode cX6_start 41 = .ok (.iconst 2, 1) := by decide +kernel
theorem dX6_start_42 : decode cX6_start 42 = .ok (.iaload, 1) := by decide +kernel
theorem dX6_start_43 : decode cX6_start 43 = .ok (.invokevirtual 172, 3) := by decide +kernel
theorem dX6_start_46 : decode cX6_start 46 = .ok (.invokevirtual 96, 3) := by decide +kernel
theorem dX6_start_49 : decode cX6_start 49 = .ok (.goto 158, 3) := by decide +kernel
theorem dX6_start_52 : decode cX6_start 52 = .ok (.aload_n 0, 1) := by decide +kernel
theorem dX6_start_53 : decode cX6_start 53 = .ok (.getfield 39, 3) := by decide +kernel
theorem dX6_start_56 : decode cX6_start 56 = .ok (.iload_n 2, 1) := by decide +kernel
theorem dX6_start_57 : decode cX6_start 57 = .ok (.iconst 3, 1) := by decide +kernel
theorem dX6_start_58 : decode cX6_start 58 = .ok (.invokevirtual 175, 3) := by decide +kernel
theorem dX6_start_61 : decode cX6_start 61 = .ok (.ifCond .eq 27, 3) := by decide +kernel
theorem dX6_start_64 : decode cX6_start 64 = .ok (.aload_n 1, 1) := by decide +kernel
theorem dX6_start_65 : decode cX6_start 65 = .ok (.iconst 3, 1) := by decide +kernel
theorem dX6_start_66 : decode cX6_start 66 = .ok (.iconst 2, 1) := by decide +kernel
theorem dX6_start_67 : decode cX6_start 67 = .ok (.iastore, 1) := by decide +kernel
theorem dX6_start_68 : decode cX6_start 68 = .ok (.aload_n 0, 1) := by decide +kernel
theorem dX6_start_69 : decode cX6_start 69 = .ok (.aload_n 0, 1) := by decide +kernel
theorem dX6_start_70 : decode cX6_start 70 = .ok (.getfield 39, 3) := by decide +kernel
theorem dX6_start_73 : decode cX6_start 73 = .ok (.iload_n 2, 1) := by decide +kernel
theorem dX6_start_74 : decode cX6_start 74 = .ok (.iconst 1, 1) := by decide +kernel
theorem dX6_start_75 : decode cX6_start 75 = .ok (.invokevirtual 109, 3) := by decide +kernel
theorem dX6_start_78 : decode cX6_start 78 = .ok (.iconst 1, 1) := by decide +kernel
theorem dX6_start_79 : decode cX6_start 79 = .ok (.aload_n 1, 1) := by decide +kernel
theorem dX6_start_80 : decode cX6_start 80 = .ok (.iconst 2, 1) := by decide +kernel
theorem dX6_start_81 : decode cX6_start 81 = .ok (.iaload, 1) := by decide +kernel
theorem dX6_start_82 : decode cX6_start 82 = .ok (.invokevirtual 72, 3) := by decide +kernel
theorem dX6_start_85 : decode cX6_start 85 = .ok (.goto 122, 3) := by decide +kernel
theorem dX6_start_88 : decode cX6_start 88 = .ok (.aload_n 0, 1) := by decide +kernel
theorem dX6_start_89 : decode cX6_start 89 = .ok (.getfield 39, 3) := by decide +kernel
theorem dX6_start_92 : decode cX6_start 92 = .ok (.iload_n 2, 1) := by decide +kernel
theorem dX6_start_93 : decode cX6_start 93 = .ok (.bipush 6, 2) := by decide +kernel
theorem dX6_start_95 : decode cX6_start 95 = .ok (.invokevirtual 175, 3) := by decide +kernel
theorem dX6_start_98 : decode cX6_start 98 = .ok (.ifCond .eq 50, 3) := by decide +kernel
theorem dX6_start_101 : decode cX6_start 101 = .ok (.aload_n 0, 1) := by decide +kernel
theorem dX6_start_102 : decode cX6_start 102 = .ok (.getfield 47, 3) := by decide +kernel
theorem dX6_start_105 : decode cX6_start 105 = .ok (.iconst 3, 1) := by decide +kernel
theorem dX6_start_106 : decode cX6_start 106 = .ok (.aload_n 0, 1) := by decide +kernel
theorem dX6_start_107 : decode cX6_start 107 = .ok (.getfield 39, 3) := by decide +kernel
theorem dX6_start_110 : decode cX6_start 110 = .ok (.iload_n 2, 1) := by decide +kernel
theorem dX6_start_111 : decode cX6_start 111 = .ok (.iconst 2, 1) := by decide +kernel
theorem dX6_start_112 : decode cX6_start 112 = .ok (.invokevirtual 109, 3) := by decide +kernel
theorem dX6_start_115 : decode cX6_start 115 = .ok (.iconst 1, 1) := by decide +kernel
theorem dX6_start_116 : decode cX6_start 116 = .ok (.iconst 0, 1) := by decide +kernel
theorem dX6_start_117 : decode cX6_start 117 = .ok (.invokevirtual 179, 3) := by decide +kernel
theorem dX6_start_120 : decode cX6_start 120 = .ok (.istore_n 3, 1) := by decide +kernel
theorem dX6_start_121 : decode cX6_start 121 = .ok (.aload_n 0, 1) := by decide +kernel
theorem dX6_start_122 : decode cX6_start 122 = .ok (.aload_n 1, 1) := by decide +kernel
theorem dX6_start_123 : decode cX6_start 123 = .ok (.aload_n 0, 1) := by decide +kernel
theorem dX6_start_124 : decode cX6_start 124 = .ok (.getfield 47, 3) := by decide +kernel
theorem dX6_start_127 : decode cX6_start 127 = .ok (.iconst 3, 1) := by decide +kernel
theorem dX6_start_128 : decode cX6_start 128 = .ok (.aload_n 0, 1) := by decide +kernel
theorem dX6_start_129 : decode cX6_start 129 = .ok (.getfield 39, 3) := by decide +kernel
theorem dX6_start_132 : decode cX6_start 132 = .ok (.iload_n 2, 1) := by decide +kernel
theorem dX6_start_133 : decode cX6_start 133 = .ok (.iconst 1, 1) := by decide +kernel
theorem dX6_start_134 : decode cX6_start 134 = .ok (.invokevirtual 109, 3) := by decide +kernel
theorem dX6_start_137 : decode cX6_start 137 = .ok (.iload_n 3, 1) := by decide +kernel
theorem dX6_start_138 : decode cX6_start 138 = .ok (.iconst 1, 1) := by decide +kernel
theorem dX6_start_139 : decode cX6_start 139 = .ok (.invokevirtual 179, 3) := by decide +kernel
theorem dX6_start_142 : decode cX6_start 142 = .ok (.invokevirtual 184, 3) := by decide +kernel
theorem dX6_start_145 : decode cX6_start 145 = .ok (.goto 62, 3) := by decide +kernel
theorem dX6_start_148 : decode cX6_start 148 = .ok (.aload_n 0, 1) := by decide +kernel
theorem dX6_start_149 : decode cX6_start 149 = .ok (.getfield 39, 3) := by decide +kernel
theorem dX6_start_152 : decode cX6_start 152 = .ok (.iload_n 2, 1) := by decide +kernel
theorem dX6_start_153 : decode cX6_start 153 = .ok (.bipush 16, 2) := by decide +kernel
theorem dX6_start_155 : decode cX6_start 155 = .ok (.invokevirtual 175, 3) := by decide +kernel
theorem dX6_start_158 : decode cX6_start 158 = .ok (.ifCond .eq 27, 3) := by decide +kernel
theorem dX6_start_161 : decode cX6_start 161 = .ok (.aload_n 1, 1) := by decide +kernel
theorem dX6_start_162 : decode cX6_start 162 = .ok (.iconst 3, 1) := by decide +kernel
theorem dX6_start_163 : decode cX6_start 163 = .ok (.iconst 5, 1) := by decide +kernel
theorem dX6_start_164 : decode cX6_start 164 = .ok (.iastore, 1) := by decide +kernel
theorem dX6_start_165 : decode cX6_start 165 = .ok (.aload_n 0, 1) := by decide +kernel
theorem dX6_start_166 : decode cX6_start 166 = .ok (.aload_n 0, 1) := by decide +kernel
theorem dX6_start_167 : decode cX6_start 167 = .ok (.getfield 39, 3) := by decide +kernel
theorem dX6_start_170 : decode cX6_start 170 = .ok (.iload_n 2, 1) := by decide +kernel
theorem dX6_start_171 : decode cX6_start 171 = .ok (.iconst 1, 1) := by decide +kernel
theorem dX6_start_172 : decode cX6_start 172 = .ok (.invokevirtual 109, 3) := by decide +kernel
theorem dX6_start_175 : decode cX6_start 175 = .ok (.iconst 1, 1) := by decide +kernel
theorem dX6_start_176 : decode cX6_start 176 = .ok (.aload_n 1, 1) := by decide +kernel
theorem dX6_start_177 : decode cX6_start 177 = .ok (.iconst 2, 1) := by decide +kernel
theorem dX6_start_178 : decode cX6_start 178 = .ok (.iaload, 1) := by decide +kernel
theorem dX6_start_179 : decode cX6_start 179 = .ok (.invokevirtual 72, 3) := by decide +kernel
theorem dX6_start_182 : decode cX6_start 182 = .ok (.goto 25, 3) := by decide +kernel
theorem dX6_start_185 : decode cX6_start 185 = .ok (.aload_n 1, 1) := by decide +kernel
theorem dX6_start_186 : decode cX6_start 186 = .ok (.bipush 6, 2) := by decide +kernel
theorem dX6_start_188 : decode cX6_start 188 = .ok (.aload_n 0, 1) := by decide +kernel
theorem dX6_start_189 : decode cX6_start 189 = .ok (.getfield 39, 3) := by decide +kernel
theorem dX6_start_192 : decode cX6_start 192 = .ok (.iload_n 2, 1) := by decide +kernel
theorem dX6_start_193 : decode cX6_start 193 = .ok (.invokevirtual 188, 3) := by decide +kernel
theorem dX6_start_196 : decode cX6_start 196 = .ok (.iastore, 1) := by decide +kernel
theorem dX6_start_197 : decode cX6_start 197 = .ok (.aload_n 1, 1) := by decide +kernel
theorem dX6_start_198 : decode cX6_start 198 = .ok (.bipush 10, 2) := by decide +kernel
theorem dX6_start_200 : decode cX6_start 200 = .ok (.iconst (-1), 1) := by decide +kernel
theorem dX6_start_201 : decode cX6_start 201 = .ok (.iastore, 1) := by decide +kernel
theorem dX6_start_202 : decode cX6_start 202 = .ok (.aload_n 1, 1) := by decide +kernel
theorem dX6_start_203 : decode cX6_start 203 = .ok (.iconst 3, 1) := by decide +kernel
theorem dX6_start_204 : decode cX6_start 204 = .ok (.bipush 6, 2) := by decide +kernel
theorem dX6_start_206 : decode cX6_start 206 = .ok (.iastore, 1) := by decide +kernel
theorem dX6_start_207 : decode cX6_start 207 = .ok (.return_, 1) := by decide +kernel

section
variable {p : Program} {l : Launch} {e : Env} {R : Room} {s : State} {m : MethodId} {args : Array Value} {below : List Frame} {meth : Method} {c : Code} {H : Heap} {locs : List Loc} {Qf : State → Prop}
variable {ls : Array Slot} {D : va_G} {ca : Nat → ClassId} {A : Nat → Prop} {ad : Nat → Nat → Nat} {u : iST}
def v_6_start (a0 : Int) (Q : iST → Prop) (u : iST) : Prop :=
  bd 0 17 (rd (u.2.1 51 (17 * a0 + 0)) (fun v1 => 
  v_7_isConstant v1 (fun v2 u => 
  br (v2 = 0) (
    v_7_isCall v1 (fun v3 u => 
    br (v3 ≠ 0) (
      v_7_isCallOf v1 3 (fun v4 u => 
      br (v4 = 0) (
        v_7_isCallOf v1 6 (fun v5 u => 
        br (v5 = 0) (
          v_7_isCallOf v1 16 (fun v6 u => 
          br (v6 = 0) (
            v_7_right v1 (fun v7 u => 
            bd 6 17 (sw (iA u 51 (17 * a0 + 6) v7) (fun u => 
            bd 10 17 (sw (iA u 51 (17 * a0 + 10) (-1)) (fun u => 
            bd 3 17 (sw (iA u 51 (17 * a0 + 3) 6) (fun u => 
            Q u))))))) u) (
            bd 3 17 (sw (iA u 51 (17 * a0 + 3) 5) (fun u => 
            v_7_item v1 1 (fun v8 u => 
            bd 2 17 (rd (u.2.1 51 (17 * a0 + 2)) (fun v9 => 
            v_6_ask v8 1 v9 (fun u => 
            Q u) u))) u)))) u) (
          v_7_item v1 2 (fun v11 u => 
          v_10_call 3 v11 1 0 (fun v12 u => 
          v_7_item v1 1 (fun v13 u => 
          v_10_call 3 v13 v12 1 (fun v14 u => 
          v_6_askInstead a0 v14 (fun u => 
          Q u) u) u) u) u) u)) u) (
        bd 3 17 (sw (iA u 51 (17 * a0 + 3) 2) (fun u => 
        v_7_item v1 1 (fun v16 u => 
        bd 2 17 (rd (u.2.1 51 (17 * a0 + 2)) (fun v17 => 
        v_6_ask v16 1 v17 (fun u => 
        Q u) u))) u)))) u) (
      bd 1 17 (rd (u.2.1 51 (17 * a0 + 1)) (fun v19 => 
      bd 2 17 (rd (u.2.1 51 (17 * a0 + 2)) (fun v20 => 
      v_6_lookedUp v1 v19 v20 (fun v21 u => 
      v_6_finish v21 (fun u => 
      Q u) u) u)))))) u) (
    v_6_finish v1 (fun u => 
    Q u) u)) u))
set_option maxRecDepth 20000 in
set_option maxHeartbeats 4000000 in
theorem f_6_start_s (X : yX RX6 p m c cX6_start 4 s args D ca ad A) (hRf : 3 ≤ R.frames) (hRl : 106 ≤ R.locals) {Q : iST → Prop} (hret : ∀ (u : iST) (H : Heap) (locs : List Loc) (ls : Array Slot) (pc : Nat), Q u → yW D ca A ad s H locs u → decode cX6_start pc = .ok (.return_, 1) → W p l e R s m args below meth c H locs 0 0 Qf (F0 m pc ls [])) {a0 : Int} (ra0 : (0 ≤ a0 ∧ a0 < 60)) (hw : yW D ca A ad s H locs u) (hl : lv_has ls 4 [(0, .ref (ad 0 5)), (1, .ref (ad 7 a0.toNat))]) (h : v_6_start a0 Q u) : W p l e R s m args below meth c H locs 0 0 Qf (F0 m 0 ls []) := by
  have hx := X.1.1
  have hb := X.1.2.1
  unfold v_6_start at h
  refine lv_aload_n hx hb dX6_start_0 rfl (lv_at hl 1 rfl) ?_
  refine lv_iconst hx hb dX6_start_1 (v := jI 0) rfl ?_
  refine yfl_frames X hw ra0 (by decide) dX6_start_2 h (fun v1 rv1 h => ?_)
  refine lv_istore_n hx hb dX6_start_3 rfl hl (by decide) rfl (fun ls hl => ?_)
  have hl : lv_has ls 4 [(2, .int (jI v1)), (0, .ref (ad 0 5)), (1, .ref (ad 7 a0.toNat))] := hl
  refine lv_aload_n hx hb dX6_start_4 rfl (lv_at hl 1 rfl) ?_
  refine yg_6_39 X hw dX6_start_5 ?_
  refine lv_iload_n hx hb dX6_start_8 rfl (lv_at hl 0 rfl) ?_
  refine ycI (n := 1) (e_7_isConstant rv1 h) 7 6 (r := (RX7, TX7, 9)) rfl yG_6_165 yD_7_isConstant X hw rfl yGo_7 (Nat.le_trans (Nat.le_of_ble_eq_true rfl) hRf) (Nat.le_trans (Nat.le_of_ble_eq_true rfl) hRl) rfl hl.1 (Nat.le_of_ble_eq_true rfl) rfl dX6_start_9 (fun v2 u H locs rv2 h hw => ?_)
  refine k_if_eq hx hb rv2 dX6_start_12 (tgt := 23) rfl h (fun h => ?_) (fun h => ?_)
  · refine lv_aload_n hx hb dX6_start_23 rfl (lv_at hl 1 rfl) ?_
    refine yg_6_39 X hw dX6_start_24 ?_
    refine lv_iload_n hx hb dX6_start_27 rfl (lv_at hl 0 rfl) ?_
    refine ycI (n := 1) (e_7_isCall rv1 h) 7 6 (r := (RX7, TX7, 9)) rfl yG_6_169 yD_7_isCall X hw rfl yGo_7 (Nat.le_trans (Nat.le_of_ble_eq_true rfl) hRf) (Nat.le_trans (Nat.le_of_ble_eq_true rfl) hRl) rfl hl.1 (Nat.le_of_ble_eq_true rfl) rfl dX6_start_28 (fun v3 u H locs rv3 h hw => ?_)
    refine k_if_ne hx hb rv3 dX6_start_31 (tgt := 52) rfl h (fun h => ?_) (fun h => ?_)
    · refine lv_aload_n hx hb dX6_start_52 rfl (lv_at hl 1 rfl) ?_
      refine yg_6_39 X hw dX6_start_53 ?_
      refine lv_iload_n hx hb dX6_start_56 rfl (lv_at hl 0 rfl) ?_
      refine lv_iconst hx hb dX6_start_57 (v := jI 3) rfl ?_
      refine ycI (n := 2) (e_7_isCallOf rv1 (by decide) h) 7 6 (r := (RX7, TX7, 9)) rfl yG_6_175 yD_7_isCallOf X hw rfl yGo_7 (Nat.le_trans (Nat.le_of_ble_eq_true rfl) hRf) (Nat.le_trans (Nat.le_of_ble_eq_true rfl) hRl) rfl hl.1 (Nat.le_of_ble_eq_true rfl) rfl dX6_start_58 (fun v4 u H locs rv4 h hw => ?_)
      refine k_if_eq hx hb rv4 dX6_start_61 (tgt := 88) rfl h (fun h => ?_) (fun h => ?_)
      · refine lv_aload_n hx hb dX6_start_88 rfl (lv_at hl 1 rfl) ?_
        refine yg_6_39 X hw dX6_start_89 ?_
        refine lv_iload_n hx hb dX6_start_92 rfl (lv_at hl 0 rfl) ?_
        refine lv_bipush hx hb dX6_start_93 (v := jI 6) rfl ?_
        refine ycI (n := 2) (e_7_isCallOf rv1 (by decide) h) 7 6 (r := (RX7, TX7, 9)) rfl yG_6_175 yD_7_isCallOf X hw rfl yGo_7 (Nat.le_trans (Nat.le_of_ble_eq_true rfl) hRf) (Nat.le_trans (Nat.le_of_ble_eq_true rfl) hRl) rfl hl.1 (Nat.le_of_ble_eq_true rfl) rfl dX6_start_95 (fun v5 u H locs rv5 h hw => ?_)
        refine k_if_eq hx hb rv5 dX6_start_98 (tgt := 148) rfl h (fun h => ?_) (fun h => ?_)
        · refine lv_aload_n hx hb dX6_start_148 rfl (lv_at hl 1 rfl) ?_
          refine yg_6_39 X hw dX6_start_149 ?_
          refine lv_iload_n hx hb dX6_start_152 rfl (lv_at hl 0 rfl) ?_
          refine lv_bipush hx hb dX6_start_153 (v := jI 16) rfl ?_
          refine ycI (n := 2) (e_7_isCallOf rv1 (by decide) h) 7 6 (r := (RX7, TX7, 9)) rfl yG_6_175 yD_7_isCallOf X hw rfl yGo_7 (Nat.le_trans (Nat.le_of_ble_eq_true rfl) hRf) (Nat.le_trans (Nat.le_of_ble_eq_true rfl) hRl) rfl hl.1 (Nat.le_of_ble_eq_true rfl) rfl dX6_start_155 (fun v6 u H locs rv6 h hw => ?_)
          refine k_if_eq hx hb rv6 dX6_start_158 (tgt := 185) rfl h (fun h => ?_) (fun h => ?_)
          · refine lv_aload_n hx hb dX6_start_185 rfl (lv_at hl 2 rfl) ?_
            refine lv_bipush hx hb dX6_start_186 (v := jI 6) rfl ?_
            refine lv_aload_n hx hb dX6_start_188 rfl (lv_at hl 1 rfl) ?_
            refine yg_6_39 X hw dX6_start_189 ?_
            refine lv_iload_n hx hb dX6_start_192 rfl (lv_at hl 0 rfl) ?_
            refine ycI (n := 1) (e_7_right rv1 h) 7 6 (r := (RX7, TX7, 9)) rfl yG_6_188 yD_7_right X hw rfl yGo_7 (Nat.le_trans (Nat.le_of_ble_eq_true rfl) hRf) (Nat.le_trans (Nat.le_of_ble_eq_true rfl) hRl) rfl hl.1 (Nat.le_of_ble_eq_true rfl) rfl dX6_start_193 (fun v7 u H locs rv7 h hw => ?_)
            refine yft_frames X hw ra0 (by decide) rv7 dX6_start_196 h (fun H locs u hw h => ?_)
            refine lv_aload_n hx hb dX6_start_197 rfl (lv_at hl 2 rfl) ?_
            refine lv_bipush hx hb dX6_start_198 (v := jI 10) rfl ?_
            refine lv_iconst hx hb dX6_start_200 (v := jI (-1)) rfl ?_
            refine yft_frames X hw ra0 (by decide) (by decide) dX6_start_201 h (fun H locs u hw h => ?_)
            refine lv_aload_n hx hb dX6_start_202 rfl (lv_at hl 2 rfl) ?_
            refine lv_iconst hx hb dX6_start_203 (v := jI 3) rfl ?_
            refine lv_bipush hx hb dX6_start_204 (v := jI 6) rfl ?_
            refine yft_frames X hw ra0 (by decide) (by decide) dX6_start_206 h (fun H locs u hw h => ?_)
            exact hret _ _ _ _ _ h hw dX6_start_207
          · refine lv_aload_n hx hb dX6_start_161 rfl (lv_at hl 2 rfl) ?_
            refine lv_iconst hx hb dX6_start_162 (v := jI 3) rfl ?_
            refine lv_iconst hx hb dX6_start_163 (v := jI 5) rfl ?_
            refine yft_frames X hw ra0 (by decide) (by decide) dX6_start_164 h (fun H locs u hw h => ?_)
            refine lv_aload_n hx hb dX6_start_165 rfl (lv_at hl 1 rfl) ?_
            refine lv_aload_n hx hb dX6_start_166 rfl (lv_at hl 1 rfl) ?_
            refine yg_6_39 X hw dX6_start_167 ?_
            refine lv_iload_n hx hb dX6_start_170 rfl (lv_at hl 0 rfl) ?_
            refine lv_iconst hx hb dX6_start_171 (v := jI 1) rfl ?_
            refine ycI (n := 2) (e_7_item rv1 (by decide) h) 7 6 (r := (RX7, TX7, 9)) rfl yG_6_109 yD_7_item X hw rfl yGo_7 (Nat.le_trans (Nat.le_of_ble_eq_true rfl) hRf) (Nat.le_trans (Nat.le_of_ble_eq_true rfl) hRl) rfl hl.1 (Nat.le_of_ble_eq_true rfl) rfl dX6_start_172 (fun v8 u H locs rv8 h hw => ?_)
            refine lv_iconst hx hb dX6_start_175 (v := jI 1) rfl ?_
            refine lv_aload_n hx hb dX6_start_176 rfl (lv_at hl 2 rfl) ?_
            refine lv_iconst hx hb dX6_start_177 (v := jI 2) rfl ?_
            refine yfl_frames X hw ra0 (by decide) dX6_start_178 h (fun v9 rv9 h => ?_)
            refine ycV (n := 3) (e_6_ask rv8 (by decide) rv9 h) 6 5 (r := (RX6, TX6, 14)) rfl yG_6_72 yD_6_ask X hw rfl yGo_6 (Nat.le_trans (Nat.le_of_ble_eq_true rfl) hRf) (Nat.le_trans (Nat.le_of_ble_eq_true rfl) hRl) rfl hl.1 (Nat.le_of_ble_eq_true rfl) rfl dX6_start_179 (fun u H locs h hw => ?_)
            refine lv_goto hx hb dX6_start_182 (tgt := 207) rfl ?_
            exact hret _ _ _ _ _ h hw dX6_start_207
        · refine lv_aload_n hx hb dX6_start_101 rfl (lv_at hl 1 rfl) ?_
          refine yg_6_47 X hw dX6_start_102 ?_
          refine lv_iconst hx hb dX6_start_105 (v := jI 3) rfl ?_
          refine lv_aload_n hx hb dX6_start_106 rfl (lv_at hl 1 rfl) ?_
          refine yg_6_39 X hw dX6_start_107 ?_
          refine lv_iload_n hx hb dX6_start_110 rfl (lv_at hl 0 rfl) ?_
          refine lv_iconst hx hb dX6_start_111 (v := jI 2) rfl ?_
          refine ycI (n := 2) (e_7_item rv1 (by decide) h) 7 6 (r := (RX7, TX7, 9)) rfl yG_6_109 yD_7_item X hw rfl yGo_7 (Nat.le_trans (Nat.le_of_ble_eq_true rfl) hRf) (Nat.le_trans (Nat.le_of_ble_eq_true rfl) hRl) rfl hl.1 (Nat.le_of_ble_eq_true rfl) rfl dX6_start_112 (fun v11 u H locs rv11 h hw => ?_)
          refine lv_iconst hx hb dX6_start_115 (v := jI 1) rfl ?_
          refine lv_iconst hx hb dX6_start_116 (v := jI 0) rfl ?_
          refine ycI (n := 4) (e_10_call (by decide) rv11 (by decide) (by decide) h) 10 8 (r := (RX10, TX10, 16)) rfl yG_6_179 yD_10_call X hw rfl yGo_10 (Nat.le_trans (Nat.le_of_ble_eq_true rfl) hRf) (Nat.le_trans (Nat.le_of_ble_eq_true rfl) hRl) rfl hl.1 (Nat.le_of_ble_eq_true rfl) rfl dX6_start_117 (fun v12 u H locs rv12 h hw => ?_)
          refine lv_istore_n hx hb dX6_start_120 rfl hl (by decide) rfl (fun ls hl => ?_)
          have hl : lv_has ls 4 [(3, .int (jI v12)), (2, .int (jI v1)), (0, .ref (ad 0 5)), (1, .ref (ad 7 a0.toNat))] := hl
          refine lv_aload_n hx hb dX6_start_121 rfl (lv_at hl 2 rfl) ?_
          refine lv_aload_n hx hb dX6_start_122 rfl (lv_at hl 3 rfl) ?_
          refine lv_aload_n hx hb dX6_start_123 rfl (lv_at hl 2 rfl) ?_
          refine yg_6_47 X hw dX6_start_124 ?_
          refine lv_iconst hx hb dX6_start_127 (v := jI 3) rfl ?_
          refine lv_aload_n hx hb dX6_start_128 rfl (lv_at hl 2 rfl) ?_
          refine yg_6_39 X hw dX6_start_129 ?_
          refine lv_iload_n hx hb dX6_start_132 rfl (lv_at hl 1 rfl) ?_
          refine lv_iconst hx hb dX6_start_133 (v := jI 1) rfl ?_
          refine ycI (n := 2) (e_7_item rv1 (by decide) h) 7 6 (r := (RX7, TX7, 9)) rfl yG_6_109 yD_7_item X hw rfl yGo_7 (Nat.le_trans (Nat.le_of_ble_eq_true rfl) hRf) (Nat.le_trans (Nat.le_of_ble_eq_true rfl) hRl) rfl hl.1 (Nat.le_of_ble_eq_true rfl) rfl dX6_start_134 (fun v13 u H locs rv13 h hw => ?_)
          refine lv_iload_n hx hb dX6_start_137 rfl (lv_at hl 0 rfl) ?_
          refine lv_iconst hx hb dX6_start_138 (v := jI 1) rfl ?_
          refine ycI (n := 4) (e_10_call (by decide) rv13 rv12 (by decide) h) 10 8 (r := (RX10, TX10, 16)) rfl yG_6_179 yD_10_call X hw rfl yGo_10 (Nat.le_trans (Nat.le_of_ble_eq_true rfl) hRf) (Nat.le_trans (Nat.le_of_ble_eq_true rfl) hRl) rfl hl.1 (Nat.le_of_ble_eq_true rfl) rfl dX6_start_139 (fun v14 u H locs rv14 h hw => ?_)
          refine ycV (n := 2) (e_6_askInstead ra0 rv14 h) 6 5 (r := (RX6, TX6, 14)) rfl yG_6_184 yD_6_askInstead X hw rfl yGo_6 (Nat.le_trans (Nat.le_of_ble_eq_true rfl) hRf) (Nat.le_trans (Nat.le_of_ble_eq_true rfl) hRl) rfl hl.1 (Nat.le_of_ble_eq_true rfl) rfl dX6_start_142 (fun u H locs h hw => ?_)
          refine lv_goto hx hb dX6_start_145 (tgt := 207) rfl ?_
          exact hret _ _ _ _ _ h hw dX6_start_207
      · refine lv_aload_n hx hb dX6_start_64 rfl (lv_at hl 2 rfl) ?_
        refine lv_iconst hx hb dX6_start_65 (v := jI 3) rfl ?_
        refine lv_iconst hx hb dX6_start_66 (v := jI 2) rfl ?_
        refine yft_frames X hw ra0 (by decide) (by decide) dX6_start_67 h (fun H locs u hw h => ?_)
        refine lv_aload_n hx hb dX6_start_68 rfl (lv_at hl 1 rfl) ?_
        refine lv_aload_n hx hb dX6_start_69 rfl (lv_at hl 1 rfl) ?_
        refine yg_6_39 X hw dX6_start_70 ?_
        refine lv_iload_n hx hb dX6_start_73 rfl (lv_at hl 0 rfl) ?_
        refine lv_iconst hx hb dX6_start_74 (v := jI 1) rfl ?_
        refine ycI (n := 2) (e_7_item rv1 (by decide) h) 7 6 (r := (RX7, TX7, 9)) rfl yG_6_109 yD_7_item X hw rfl yGo_7 (Nat.le_trans (Nat.le_of_ble_eq_true rfl) hRf) (Nat.le_trans (Nat.le_of_ble_eq_true rfl) hRl) rfl hl.1 (Nat.le_of_ble_eq_true rfl) rfl dX6_start_75 (fun v16 u H locs rv16 h hw => ?_)
        refine lv_iconst hx hb dX6_start_78 (v := jI 1) rfl ?_
        refine lv_aload_n hx hb dX6_start_79 rfl (lv_at hl 2 rfl) ?_
        refine lv_iconst hx hb dX6_start_80 (v := jI 2) rfl ?_
        refine yfl_frames X hw ra0 (by decide) dX6_start_81 h (fun v17 rv17 h => ?_)
        refine ycV (n := 3) (e_6_ask rv16 (by decide) rv17 h) 6 5 (r := (RX6, TX6, 14)) rfl yG_6_72 yD_6_ask X hw rfl yGo_6 (Nat.le_trans (Nat.le_of_ble_eq_true rfl) hRf) (Nat.le_trans (Nat.le_of_ble_eq_true rfl) hRl) rfl hl.1 (Nat.le_of_ble_eq_true rfl) rfl dX6_start_82 (fun u H locs h hw => ?_)
        refine lv_goto hx hb dX6_start_85 (tgt := 207) rfl ?_
        exact hret _ _ _ _ _ h hw dX6_start_207
    · refine lv_aload_n hx hb dX6_start_34 rfl (lv_at hl 1 rfl) ?_
      refine lv_aload_n hx hb dX6_start_35 rfl (lv_at hl 1 rfl) ?_
      refine lv_iload_n hx hb dX6_start_36 rfl (lv_at hl 0 rfl) ?_
      refine lv_aload_n hx hb dX6_start_37 rfl (lv_at hl 2 rfl) ?_
      refine lv_iconst hx hb dX6_start_38 (v := jI 1) rfl ?_
      refine yfl_frames X hw ra0 (by decide) dX6_start_39 h (fun v19 rv19 h => ?_)
      refine lv_aload_n hx hb dX6_start_40 rfl (lv_at hl 2 rfl) ?_
      refine lv_iconst hx hb dX6_start_41 (v := jI 2) rfl ?_
      refine yfl_frames X hw ra0 (by decide) dX6_start_42 h (fun v20 rv20 h => ?_)
      refine ycI (n := 3) (e_6_lookedUp rv1 rv19 rv20 h) 6 5 (r := (RX6, TX6, 14)) rfl yG_6_172 yD_6_lookedUp X hw rfl yGo_6 (Nat.le_trans (Nat.le_of_ble_eq_true rfl) hRf) (Nat.le_trans (Nat.le_of_ble_eq_true rfl) hRl) rfl hl.1 (Nat.le_of_ble_eq_true rfl) rfl dX6_start_43 (fun v21 u H locs rv21 h hw => ?_)
      refine ycV (n := 1) (e_6_finish rv21 h) 6 5 (r := (RX6, TX6, 14)) rfl yG_6_96 yD_6_finish X hw rfl yGo_6 (Nat.le_trans (Nat.le_of_ble_eq_true rfl) hRf) (Nat.le_trans (Nat.le_of_ble_eq_true rfl) hRl) rfl hl.1 (Nat.le_of_ble_eq_true rfl) rfl dX6_start_46 (fun u H locs h hw => ?_)
      refine lv_goto hx hb dX6_start_49 (tgt := 207) rfl ?_
      exact hret _ _ _ _ _ h hw dX6_start_207
  · refine lv_aload_n hx hb dX6_start_15 rfl (lv_at hl 1 rfl) ?_
    refine lv_iload_n hx hb dX6_start_16 rfl (lv_at hl 0 rfl) ?_
    refine ycV (n := 1) (e_6_finish rv1 h) 6 5 (r := (RX6, TX6, 14)) rfl yG_6_96 yD_6_finish X hw rfl yGo_6 (Nat.le_trans (Nat.le_of_ble_eq_true rfl) hRf) (Nat.le_trans (Nat.le_of_ble_eq_true rfl) hRl) rfl hl.1 (Nat.le_of_ble_eq_true rfl) rfl dX6_start_17 (fun u H locs h hw => ?_)
    refine lv_goto hx hb dX6_start_20 (tgt := 207) rfl ?_
    exact hret _ _ _ _ _ h hw dX6_start_207

end
theorem e_6_start {l : Launch} {a0 : Int} (ra0 : (0 ≤ a0 ∧ a0 < 60)) {Q : iST → Prop} {u : iST} (h : v_6_start a0 Q u) : yMV l yX6_start (.code yX6_start cX6_start 4 none :: wsN) { frames := 3, cells := 0, slots := 0, locals := 106 } (fun ad => [.ref (ad 0 5), .ref (ad 7 a0.toNat)]) Q u := yMV_of (own := RX6) rfl (by decide +kernel) (fun _ => Nat.le_of_ble_eq_true rfl) (fun X hRf hRl hret hw hl => f_6_start_s X hRf hRl hret ra0 hw hl h)

/-! ProofHouse$Rewriter.goOnWithTest -/
theorem dX6_goOnWithTest_0 : decode cX6_goOnWithTest 0 = .ok (.aload_n 0, 1) := by decide +kernel
theorem dX6_goOnWithTest_1 : decode cX6_goOnWithTest 1 = .ok (.getfield 39, 3) := by decide +kernel
theorem dX6_goOnWithTest_4 : decode cX6_goOnWithTest 4 = .ok (.aload_n 1, 1) := by decide +kernel
theorem dX6_goOnWithTest_5 : decode cX6_goOnWithTest 5 = .ok (.iconst 0, 1) := by decide +kernel
theorem dX6_goOnWithTest_6 : decode cX6_goOnWithTest 6 = .ok (.iaload, 1) := by decide +kernel
theorem dX6_goOnWithTest_7 : decode cX6_goOnWithTest 7 = .ok (.iconst 2, 1) := by decide +kernel
theorem dX6_goOnWithTest_8 : decode cX6_goOnWithTest 8 = .ok (.invokevirtual 109, 3) := by decide +kernel
theorem dX6_goOnWithTest_11 : decode cX6_goOnWithTest 11 = .ok (.istore_n 2, 1) := by decide +kernel
theorem dX6_goOnWithTest_12 : decode cX6_goOnWithTest 12 = .ok (.aload_n 0, 1) := by decide +kernel
theorem dX6_goOnWithTest_13 : decode cX6_goOnWithTest 13 = .ok (.getfield 39, 3) := by decide +kernel
theorem dX6_goOnWithTest_16 : decode cX6_goOnWithTest 16 = .ok (.aload_n 1, 1) := by decide +kernel
theorem dX6_goOnWithTest_17 : decode cX6_goOnWithTest 17 = .ok (.iconst 0, 1) := by decide +kernel
theorem dX6_goOnWithTest_18 : decode cX6_goOnWithTest 18 = .ok (.iaload, 1) := by decide +kernel
theorem dX6_goOnWithTest_19 : decode cX6_goOnWithTest 19 = .ok (.iconst 3, 1) := by decide +kernel
theorem dX6_goOnWithTest_20 : decode cX6_goOnWithTest 20 = .ok (.invokevirtual 109, 3) := by decide +kernel
theorem dX6_goOnWithTest_23 : decode cX6_goOnWithTest 23 = .ok (.istore_n 3, 1) := by decide +kernel
theorem dX6_goOnWithTest_24 : decode cX6_goOnWithTest 24 = .ok (.aload_n 0, 1) := by decide +kernel
theorem dX6_goOnWithTest_25 : decode cX6_goOnWithTest 25 = .ok (.getfield 39, 3) := by decide +kernel
theorem dX6_goOnWithTest_28 : decode cX6_goOnWithTest 28 = .ok (.aload_n 0, 1) := by decide +kernel
theorem dX6_goOnWithTest_29 : decode cX6_goOnWithTest 29 = .ok (.getfield 20, 3) := by decide +kernel
theorem dX6_goOnWithTest_32 : decode cX6_goOnWithTest 32 = .ok (.invokevirtual 165, 3) := by decide +kernel
theorem dX6_goOnWithTest_35 : decode cX6_goOnWithTest 35 = .ok (.ifCond .eq 21, 3) := by decide +kernel
theorem dX6_goOnWithTest_38 : decode cX6_goOnWithTest 38 = .ok (.aload_n 0, 1) := by decide +kernel
theorem dX6_goOnWithTest_39 : decode cX6_goOnWithTest 39 = .ok (.aload_n 1, 1) := by decide +kernel
theorem dX6_goOnWithTest_40 : decode cX6_goOnWithTest 40 = .ok (.aload_n 0, 1) := by decide +kernel
theorem dX6_goOnWithTest_41 : decode cX6_goOnWithTest 41 = .ok (.getfield 20, 3) := by decide +kernel
theorem dX6_goOnWithTest_44 : decode cX6_goOnWithTest 44 = .ok (.ifCond .eq 7, 3) := by decide +kernel
theorem dX6_goOnWithTest_47 : decode cX6_goOnWithTest 47 = .ok (.iload_n 2, 1) := by decide +kernel
theorem dX6_goOnWithTest_48 : decode cX6_goOnWithTest 48 = .ok (.goto 4, 3) := by decide +kernel
theorem dX6_goOnWithTest_51 : decode cX6_goOnWithTest 51 = .ok (.iload_n 3, 1) := by decide +kernel
theorem dX6_goOnWithTest_52 : decode cX6_goOnWithTest 52 = .ok (.invokevirtual 184, 3) := by decide +kernel
theorem dX6_goOnWithTest_55 : decode cX6_goOnWithTest 55 = .ok (.return_, 1) := by decide +kernel
theorem dX6_goOnWithTest_56 : decode cX6_goOnWithTest 56 = .ok (.aload_n 0, 1) := by decide +kernel
theorem dX6_goOnWithTest_57 : decode cX6_goOnWithTest 57 = .ok (.getfield 39, 3) := by decide +kernel
theorem dX6_goOnWithTest_60 : decode cX6_goOnWithTest 60 = .ok (.aload_n 0, 1) := by decide +kernel
theorem dX6_goOnWithTest_61 : decode cX6_goOnWithTest 61 = .ok (.getfield 20, 3) := by decide +kernel
theorem dX6_goOnWithTest_64 : decode cX6_goOnWithTest 64 = .ok (.bipush 16, 2) := by decide +kernel
theorem dX6_goOnWithTest_66 : decode cX6_goOnWithTest 66 = .ok (.invokevirtual 175, 3) := by decide +kernel
theorem dX6_goOnWithTest_69 : decode cX6_goOnWithTest 69 = .ok (.istore 4, 2) := by decide +kernel
theorem dX6_goOnWithTest_71 : decode cX6_goOnWithTest 71 = .ok (.aload_n 1, 1) := by decide +kernel
theorem dX6_goOnWithTest_72 : decode cX6_goOnWithTest 72 = .ok (.iconst 5, 1) := by decide +kernel
theorem dX6_goOnWithTest_73 : decode cX6_goOnWithTest 73 = .ok (.iload 4, 2) := by decide +kernel
theorem dX6_goOnWithTest_75 : decode cX6_goOnWithTest 75 = .ok (.ifCond .eq 18, 3) := by decide +kernel
theorem dX6_goOnWithTest_78 : decode cX6_goOnWithTest 78 = .ok (.aload_n 0, 1) := by decide +kernel
theorem dX6_goOnWithTest_79 : decode cX6_goOnWithTest 79 = .ok (.getfield 39, 3) := by decide +kernel
theorem dX6_goOnWithTest_82 : decode cX6_goOnWithTest 82 = .ok (.aload_n 0, 1) := by decide +kernel
theorem dX6_goOnWithTest_83 : decode cX6_goOnWithTest 83 = .ok (.getfield 20, 3) := by decide +kernel
theorem dX6_goOnWithTest_86 : decode cX6_goOnWithTest 86 = .ok (.iconst 1, 1) := by decide +kernel
theorem dX6_goOnWithTest_87 : decode cX6_goOnWithTest 87 = .ok (.invokevirtual 109, 3) := by decide +kernel
theorem dX6_goOnWithTest_90 : decode cX6_goOnWithTest 90 = .ok (.goto 7, 3) := by decide +kernel
theorem dX6_goOnWithTest_93 : decode cX6_goOnWithTest 93 = .ok (.aload_n 0, 1) := by decide +kernel
theorem dX6_goOnWithTest_94 : decode cX6_goOnWithTest 94 = .ok (.getfield 20, 3) := by decide +kernel
theorem dX6_goOnWithTest_97 : decode cX6_goOnWithTest 97 = .ok (.iastore, 1) := by decide +kernel
theorem dX6_goOnWithTest_98 : decode cX6_goOnWithTest 98 = .ok (.aload_n 1, 1) := by decide +kernel
theorem dX6_goOnWithTest_99 : decode cX6_goOnWithTest 99 = .ok (.bipush 6, 2) := by decide +kernel
theorem dX6_goOnWithTest_101 : decode cX6_goOnWithTest 101 = .ok (.iload 4, 2) := by decide +kernel
theorem dX6_goOnWithTest_103 : decode cX6_goOnWithTest 103 = .ok (.ifCond .eq 7, 3) := by decide +kernel
theorem dX6_goOnWithTest_106 : decode cX6_goOnWithTest 106 = .ok (.iload_n 2, 1) := by decide +kernel
theorem dX6_goOnWithTest_107 : decode cX6_goOnWithTest 107 = .ok (.goto 4, 3) := by decide +kernel
theorem dX6_goOnWithTest_110 : decode cX6_goOnWithTest 110 = .ok (.iload_n 3, 1) := by decide +kernel
theorem dX6_goOnWithTest_111 : decode cX6_goOnWithTest 111 = .ok (.iastore, 1) := by decide +kernel
theorem dX6_goOnWithTest_112 : decode cX6_goOnWithTest 112 = .ok (.aload_n 1, 1) := by decide +kernel
theorem dX6_goOnWithTest_113 : decode cX6_goOnWithTest 113 = .ok (.iconst 3, 1) := by decide +kernel
theorem dX6_goOnWithTest_114 : decode cX6_goOnWithTest 114 = .ok (.iconst 3, 1) := by decide +kernel
theorem dX6_goOnWithTest_115 : decode cX6_goOnWithTest 115 = .ok (.iastore, 1) := by decide +kernel
theorem dX6_goOnWithTest_116 : decode cX6_goOnWithTest 116 = .ok (.aload_n 0, 1) := by decide +kernel
theorem dX6_goOnWithTest_117 : decode cX6_goOnWithTest 117 = .ok (.iload 4, 2) := by decide +kernel
theorem dX6_goOnWithTest_119 : decode cX6_goOnWithTest 119 = .ok (.ifCond .eq 7, 3) := by decide +kernel
theorem dX6_goOnWithTest_122 : decode cX6_goOnWithTest 122 = .ok (.iload_n 3, 1) := by decide +kernel
theorem dX6_goOnWithTest_123 : decode cX6_goOnWithTest 123 = .ok (.goto 4, 3) := by decide +kernel
theorem dX6_goOnWithTest_126 : decode cX6_goOnWithTest 126 = .ok (.iload_n 2, 1) := by decide +kernel
theorem dX6_goOnWithTest_127 : decode cX6_goOnWithTest 127 = .ok (.aload_n 1, 1) := by decide +kernel
theorem dX6_goOnWithTest_128 : decode cX6_goOnWithTest 128 = .ok (.iconst 1, 1) := by decide +kernel
theorem dX6_goOnWithTest_129 : decode cX6_goOnWithTest 129 = .ok (.iaload, 1) := by decide +kernel
theorem dX6_goOnWithTest_130 : decode cX6_goOnWithTest 130 = .ok (.aload_n 0, 1) := by decide +kernel
theorem dX6_goOnWithTest_131 : decode cX6_goOnWithTest 131 = .ok (.getfield 39, 3) := by decide +kernel
theorem dX6_goOnWithTest_134 : decode cX6_goOnWithTest 134 = .ok (.aload_n 1, 1) := by decide +kernel
theorem dX6_goOnWithTest_135 : decode cX6_goOnWithTest 135 = .ok (.iconst 5, 1) := by decide +kernel
theorem dX6_goOnWithTest_136 : decode cX6_goOnWithTest 136 = .ok (.iaload, 1) := by decide +kernel
theorem dX6_goOnWithTest_137 : decode cX6_goOnWithTest 137 = .ok (.aload_n 1, 1) := by decide +kernel
theorem dX6_goOnWithTest_138 : decode cX6_goOnWithTest 138 = .ok (.iconst 2, 1) := by decide +kernel
theorem dX6_goOnWithTest_139 : decode cX6_goOnWithTest 139 = .ok (.iaload, 1) := by decide +kernel
theorem dX6_goOnWithTest_140 : decode cX6_goOnWithTest 140 = .ok (.invokestatic 191, 3) := by decide +kernel
theorem dX6_goOnWithTest_143 : decode cX6_goOnWithTest 143 = .ok (.invokevirtual 195, 3) := by decide +kernel
theorem dX6_goOnWithTest_146 : decode cX6_goOnWithTest 146 = .ok (.invokevirtual 72, 3) := by decide +kernel
theorem dX6_goOnWithTest_149 : decode cX6_goOnWithTest 149 = .ok (.return_, 1) := by decide +kernel

section
variable {p : Program} {l : Launch} {e : Env} {R : Room} {s : State} {m : MethodId} {args : Array Value} {below : List Frame} {meth : Method} {c : Code} {H : Heap} {locs : List Loc} {Qf : State → Prop}
variable {ls : Array Slot} {D : va_G} {ca : Nat → ClassId} {A : Nat → Prop} {ad : Nat → Nat → Nat} {u : iST}
def v_6_goOnWithTest_127 (Q : iST → Prop) (x1 : Int) (y1 : Int) (u : iST) : Prop :=
  bd 1 17 (rd (u.2.1 51 (17 * x1 + 1)) (fun v10 => 
  bd 5 17 (rd (u.2.1 51 (17 * x1 + 5)) (fun v11 => 
  bd 2 17 (rd (u.2.1 51 (17 * x1 + 2)) (fun v12 => 
  v_11_pairCell v11 v12 (fun v13 u => 
  v_7_made v13 (fun v14 u => 
  v_6_ask y1 v10 v14 (fun u => 
  Q u) u) u) u))))))
set_option maxRecDepth 20000 in
set_option maxHeartbeats 4000000 in
theorem f_6_goOnWithTest_127 (X : yX RX6 p m c cX6_goOnWithTest 5 s args D ca ad A) (hRf : 3 ≤ R.frames) (hRl : 106 ≤ R.locals) {Q : iST → Prop} (hret : ∀ (u : iST) (H : Heap) (locs : List Loc) (ls : Array Slot) (pc : Nat), Q u → yW D ca A ad s H locs u → decode cX6_goOnWithTest pc = .ok (.return_, 1) → W p l e R s m args below meth c H locs 0 0 Qf (F0 m pc ls [])) {x1 y1 : Int} (rx1 : (0 ≤ x1 ∧ x1 < 60)) (ry1 : inR y1) (hw : yW D ca A ad s H locs u) (hl : lv_has ls 5 [(0, .ref (ad 0 5)), (1, .ref (ad 7 x1.toNat))]) (h : v_6_goOnWithTest_127 Q x1 y1 u) : W p l e R s m args below meth c H locs 0 0 Qf (F0 m 127 ls [.int (jI y1), .ref (ad 0 5)]) := by
  have hx := X.1.1
  have hb := X.1.2.1
  unfold v_6_goOnWithTest_127 at h
  refine lv_aload_n hx hb dX6_goOnWithTest_127 rfl (lv_at hl 1 rfl) ?_
  refine lv_iconst hx hb dX6_goOnWithTest_128 (v := jI 1) rfl ?_
  refine yfl_frames X hw rx1 (by decide) dX6_goOnWithTest_129 h (fun v10 rv10 h => ?_)
  refine lv_aload_n hx hb dX6_goOnWithTest_130 rfl (lv_at hl 0 rfl) ?_
  refine yg_6_39 X hw dX6_goOnWithTest_131 ?_
  refine lv_aload_n hx hb dX6_goOnWithTest_134 rfl (lv_at hl 1 rfl) ?_
  refine lv_iconst hx hb dX6_goOnWithTest_135 (v := jI 5) rfl ?_
  refine yfl_frames X hw rx1 (by decide) dX6_goOnWithTest_136 h (fun v11 rv11 h => ?_)
  refine lv_aload_n hx hb dX6_goOnWithTest_137 rfl (lv_at hl 1 rfl) ?_
  refine lv_iconst hx hb dX6_goOnWithTest_138 (v := jI 2) rfl ?_
  refine yfl_frames X hw rx1 (by decide) dX6_goOnWithTest_139 h (fun v12 rv12 h => ?_)
  refine ycSN (n := 2) (e_11_pairCell rv11 rv12 h) (host := "ProofHouse") rfl goodPair yD_11_pairCell.2 X hw (yNm_6_191 X.2.2.1) (ysI_in (List.mem_of_getElem? (i := 11) rfl)) statPair (Nat.le_trans (Nat.le_of_ble_eq_true rfl) hRf) (Nat.le_trans (Nat.le_of_ble_eq_true rfl) hRl) rfl hl.1 (Nat.le_of_ble_eq_true rfl) rfl dX6_goOnWithTest_140 (fun v13 u H locs rv13 h hw => ?_)
  refine ycI (n := 1) (e_7_made rv13 h) 7 6 (r := (RX7, TX7, 9)) rfl yG_6_195 yD_7_made X hw rfl yGo_7 (Nat.le_trans (Nat.le_of_ble_eq_true rfl) hRf) (Nat.le_trans (Nat.le_of_ble_eq_true rfl) hRl) rfl hl.1 (Nat.le_of_ble_eq_true rfl) rfl dX6_goOnWithTest_143 (fun v14 u H locs rv14 h hw => ?_)
  refine ycV (n := 3) (e_6_ask ry1 rv10 rv14 h) 6 5 (r := (RX6, TX6, 14)) rfl yG_6_72 yD_6_ask X hw rfl yGo_6 (Nat.le_trans (Nat.le_of_ble_eq_true rfl) hRf) (Nat.le_trans (Nat.le_of_ble_eq_true rfl) hRl) rfl hl.1 (Nat.le_of_ble_eq_true rfl) rfl dX6_goOnWithTest_146 (fun u H locs h hw => ?_)
  exact hret _ _ _ _ _ h hw dX6_goOnWithTest_149

def v_6_goOnWithTest_111 (Q : iST → Prop) (x1 : Int) (x2 : Int) (x3 : Int) (x4 : Int) (y0 : Int) (y1 : Int) (y2 : Int) (u : iST) : Prop :=
  bd y1 17 (sw (iA u 51 (17 * y0 + y1) y2) (fun u => 
  bd 3 17 (sw (iA u 51 (17 * x1 + 3) 3) (fun u => 
  br (x4 = 0) (
    v_6_goOnWithTest_127 Q x1 x2 u) (
    v_6_goOnWithTest_127 Q x1 x3 u)))))
set_option maxRecDepth 20000 in
set_option maxHeartbeats 4000000 in
theorem f_6_goOnWithTest_111 (X : yX RX6 p m c cX6_goOnWithTest 5 s args D ca ad A) (hRf : 3 ≤ R.frames) (hRl : 106 ≤ R.locals) {Q : iST → Prop} (hret : ∀ (u : iST) (H : Heap) (locs : List Loc) (ls : Array Slot) (pc : Nat), Q u → yW D ca A ad s H locs u → decode cX6_goOnWithTest pc = .ok (.return_, 1) → W p l e R s m args below meth c H locs 0 0 Qf (F0 m pc ls [])) {x1 x2 x3 x4 y0 y1 y2 : Int} (rx1 : (0 ≤ x1 ∧ x1 < 60)) (rx2 : inR x2) (rx3 : inR x3) (rx4 : inR x4) (ry0 : (0 ≤ y0 ∧ y0 < 60)) (ry1 : inR y1) (ry2 : inR y2) (hw : yW D ca A ad s H locs u) (hl : lv_has ls 5 [(0, .ref (ad 0 5)), (1, .ref (ad 7 x1.toNat)), (2, .int (jI x2)), (3, .int (jI x3)), (4, .int (jI x4))]) (h : v_6_goOnWithTest_111 Q x1 x2 x3 x4 y0 y1 y2 u) : W p l e R s m args below meth c H locs 0 0 Qf (F0 m 111 ls [.int (jI y2), .int (jI y1), .ref (ad 7 y0.toNat)]) := by
  have hx := X.1.1
  have hb := X.1.2.1
  unfold v_6_goOnWithTest_111 at h
  refine yft_frames X hw ry0 ry1 ry2 dX6_goOnWithTest_111 h (fun H locs u hw h => ?_)
  refine lv_aload_n hx hb dX6_goOnWithTest_112 rfl (lv_at hl 1 rfl) ?_
  refine lv_iconst hx hb dX6_goOnWithTest_113 (v := jI 3) rfl ?_
  refine lv_iconst hx hb dX6_goOnWithTest_114 (v := jI 3) rfl ?_
  refine yft_frames X hw rx1 (by decide) (by decide) dX6_goOnWithTest_115 h (fun H locs u hw h => ?_)
  refine lv_aload_n hx hb dX6_goOnWithTest_116 rfl (lv_at hl 0 rfl) ?_
  refine lv_iload hx hb dX6_goOnWithTest_117 (lv_at hl 4 rfl) ?_
  refine k_if_eq hx hb rx4 dX6_goOnWithTest_119 (tgt := 126) rfl h (fun h => ?_) (fun h => ?_)
  · refine lv_iload_n hx hb dX6_goOnWithTest_126 rfl (lv_at hl 2 rfl) ?_
    exact f_6_goOnWithTest_127 X hRf hRl hret rx1 rx2 hw (lv_sub hl [0, 1] rfl) h
  · refine lv_iload_n hx hb dX6_goOnWithTest_122 rfl (lv_at hl 3 rfl) ?_
    refine lv_goto hx hb dX6_goOnWithTest_123 (tgt := 127) rfl ?_
    exact f_6_goOnWithTest_127 X hRf hRl hret rx1 rx3 hw (lv_sub hl [0, 1] rfl) h

def v_6_goOnWithTest_97 (Q : iST → Prop) (x1 : Int) (x2 : Int) (x3 : Int) (x4 : Int) (y0 : Int) (y1 : Int) (y2 : Int) (u : iST) : Prop :=
  bd y1 17 (sw (iA u 51 (17 * y0 + y1) y2) (fun u => 
  br (x4 = 0) (
    v_6_goOnWithTest_111 Q x1 x2 x3 x4 x1 6 x3 u) (
    v_6_goOnWithTest_111 Q x1 x2 x3 x4 x1 6 x2 u)))
set_option maxRecDepth 20000 in
set_option maxHeartbeats 4000000 in
theorem f_6_goOnWithTest_97 (X : yX RX6 p m c cX6_goOnWithTest 5 s args D ca ad A) (hRf : 3 ≤ R.frames) (hRl : 106 ≤ R.locals) {Q : iST → Prop} (hret : ∀ (u : iST) (H : Heap) (locs : List Loc) (ls : Array Slot) (pc : Nat), Q u → yW D ca A ad s H locs u → decode cX6_goOnWithTest pc = .ok (.return_, 1) → W p l e R s m args below meth c H locs 0 0 Qf (F0 m pc ls [])) {x1 x2 x3 x4 y0 y1 y2 : Int} (rx1 : (0 ≤ x1 ∧ x1 < 60)) (rx2 : inR x2) (rx3 : inR x3) (rx4 : inR x4) (ry0 : (0 ≤ y0 ∧ y0 < 60)) (ry1 : inR y1) (ry2 : inR y2) (hw : yW D ca A ad s H locs u) (hl : lv_has ls 5 [(0, .ref (ad 0 5)), (1, .ref (ad 7 x1.toNat)), (2, .int (jI x2)), (3, .int (jI x3)), (4, .int (jI x4))]) (h : v_6_goOnWithTest_97 Q x1 x2 x3 x4 y0 y1 y2 u) : W p l e R s m args below meth c H locs 0 0 Qf (F0 m 97 ls [.int (jI y2), .int (jI y1), .ref (ad 7 y0.toNat)]) := by
  have hx := X.1.1
  have hb := X.1.2.1
  unfold v_6_goOnWithTest_97 at h
  refine yft_frames X hw ry0 ry1 ry2 dX6_goOnWithTest_97 h (fun H locs u hw h => ?_)
  refine lv_aload_n hx hb dX6_goOnWithTest_98 rfl (lv_at hl 1 rfl) ?_
  refine lv_bipush hx hb dX6_goOnWithTest_99 (v := jI 6) rfl ?_
  refine lv_iload hx hb dX6_goOnWithTest_101 (lv_at hl 4 rfl) ?_
  refine k_if_eq hx hb rx4 dX6_goOnWithTest_103 (tgt := 110) rfl h (fun h => ?_) (fun h => ?_)
  · refine lv_iload_n hx hb dX6_goOnWithTest_110 rfl (lv_at hl 3 rfl) ?_
    exact f_6_goOnWithTest_111 X hRf hRl hret rx1 rx2 rx3 rx4 rx1 (by decide) rx3 hw hl h
  · refine lv_iload_n hx hb dX6_goOnWithTest_106 rfl (lv_at hl 2 rfl) ?_
    refine lv_goto hx hb dX6_goOnWithTest_107 (tgt := 111) rfl ?_
    exact f_6_goOnWithTest_111 X hRf hRl hret rx1 rx2 rx3 rx4 rx1 (by decide) rx2 hw hl h

def v_6_goOnWithTest_52 (Q : iST → Prop) (y1 : Int) (y2 : Int) (u : iST) : Prop :=
  v_6_askInstead y1 y2 (fun u => 
  Q u) u
set_option maxRecDepth 20000 in
set_option maxHeartbeats 4000000 in
theorem f_6_goOnWithTest_52 (X : yX RX6 p m c cX6_goOnWithTest 5 s args D ca ad A) (hRf : 3 ≤ R.frames) (hRl : 106 ≤ R.locals) {Q : iST → Prop} (hret : ∀ (u : iST) (H : Heap) (locs : List Loc) (ls : Array Slot) (pc : Nat), Q u → yW D ca A ad s H locs u → decode cX6_goOnWithTest pc = .ok (.return_, 1) → W p l e R s m args below meth c H locs 0 0 Qf (F0 m pc ls [])) {y1 y2 : Int} (ry1 : (0 ≤ y1 ∧ y1 < 60)) (ry2 : inR y2) (hw : yW D ca A ad s H locs u) (hl : lv_has ls 5 [(0, .ref (ad 0 5))]) (h : v_6_goOnWithTest_52 Q y1 y2 u) : W p l e R s m args below meth c H locs 0 0 Qf (F0 m 52 ls [.int (jI y2), .ref (ad 7 y1.toNat), .ref (ad 0 5)]) := by
  have hx := X.1.1
  have hb := X.1.2.1
  unfold v_6_goOnWithTest_52 at h
  refine ycV (n := 2) (e_6_askInstead ry1 ry2 h) 6 5 (r := (RX6, TX6, 14)) rfl yG_6_184 yD_6_askInstead X hw rfl yGo_6 (Nat.le_trans (Nat.le_of_ble_eq_true rfl) hRf) (Nat.le_trans (Nat.le_of_ble_eq_true rfl) hRl) rfl hl.1 (Nat.le_of_ble_eq_true rfl) rfl dX6_goOnWithTest_52 (fun u H locs h hw => ?_)
  exact hret _ _ _ _ _ h hw dX6_goOnWithTest_55

def v_6_goOnWithTest (a0 : Int) (Q : iST → Prop) (u : iST) : Prop :=
  bd 0 17 (rd (u.2.1 51 (17 * a0 + 0)) (fun v1 => 
  v_7_item v1 2 (fun v2 u => 
  bd 0 17 (rd (u.2.1 51 (17 * a0 + 0)) (fun v3 => 
  v_7_item v3 3 (fun v4 u => 
  rd (u.1 24) (fun v5 => 
  v_7_isConstant v5 (fun v6 u => 
  br (v6 = 0) (
    rd (u.1 24) (fun v7 => 
    v_7_isCallOf v7 16 (fun v8 u => 
    br (v8 = 0) (
      rd (u.1 24) (fun v9 => 
      v_6_goOnWithTest_97 Q a0 v2 v4 v8 a0 5 v9 u)) (
      rd (u.1 24) (fun v16 => 
      v_7_item v16 1 (fun v17 u => 
      v_6_goOnWithTest_97 Q a0 v2 v4 v8 a0 5 v17 u) u))) u)) (
    rd (u.1 24) (fun v18 => 
    br (v18 = 0) (
      v_6_goOnWithTest_52 Q a0 v4 u) (
      v_6_goOnWithTest_52 Q a0 v2 u)))) u)) u))) u))
set_option maxRecDepth 20000 in
set_option maxHeartbeats 4000000 in
theorem f_6_goOnWithTest_s (X : yX RX6 p m c cX6_goOnWithTest 5 s args D ca ad A) (hRf : 3 ≤ R.frames) (hRl : 106 ≤ R.locals) {Q : iST → Prop} (hret : ∀ (u : iST) (H : Heap) (locs : List Loc) (ls : Array Slot) (pc : Nat), Q u → yW D ca A ad s H locs u → decode cX6_goOnWithTest pc = .ok (.return_, 1) → W p l e R s m args below meth c H locs 0 0 Qf (F0 m pc ls [])) {a0 : Int} (ra0 : (0 ≤ a0 ∧ a0 < 60)) (hw : yW D ca A ad s H locs u) (hl : lv_has ls 5 [(0, .ref (ad 0 5)), (1, .ref (ad 7 a0.toNat))]) (h : v_6_goOnWithTest a0 Q u) : W p l e R s m args below meth c H locs 0 0 Qf (F0 m 0 ls []) := by
  have hx := X.1.1
  have hb := X.1.2.1
  unfold v_6_goOnWithTest at h
  refine lv_aload_n hx hb dX6_goOnWithTest_0 rfl (lv_at hl 0 rfl) ?_
  refine yg_6_39 X hw dX6_goOnWithTest_1 ?_
  refine lv_aload_n hx hb dX6_goOnWithTest_4 rfl (lv_at hl 1 rfl) ?_
  refine lv_iconst hx hb dX6_goOnWithTest_5 (v := jI 0) rfl ?_
  refine yfl_frames X hw ra0 (by decide) dX6_goOnWithTest_6 h (fun v1 rv1 h => ?_)
  refine lv_iconst hx hb dX6_goOnWithTest_7 (v := jI 2) rfl ?_
  refine ycI (n := 2) (e_7_item rv1 (by decide) h) 7 6 (r := (RX7, TX7, 9)) rfl yG_6_109 yD_7_item X hw rfl yGo_7 (Nat.le_trans (Nat.le_of_ble_eq_true rfl) hRf) (Nat.le_trans (Nat.le_of_ble_eq_true rfl) hRl) rfl hl.1 (Nat.le_of_ble_eq_true rfl) rfl dX6_goOnWithTest_8 (fun v2 u H locs rv2 h hw => ?_)
  refine lv_istore_n hx hb dX6_goOnWithTest_11 rfl hl (by decide) rfl (fun ls hl => ?_)
  have hl : lv_has ls 5 [(2, .int (jI v2)), (0, .ref (ad 0 5)), (1, .ref (ad 7 a0.toNat))] := hl
  refine lv_aload_n hx hb dX6_goOnWithTest_12 rfl (lv_at hl 1 rfl) ?_
  refine yg_6_39 X hw dX6_goOnWithTest_13 ?_
  refine lv_aload_n hx hb dX6_goOnWithTest_16 rfl (lv_at hl 2 rfl) ?_
  refine lv_iconst hx hb dX6_goOnWithTest_17 (v := jI 0) rfl ?_
  refine yfl_frames X hw ra0 (by decide) dX6_goOnWithTest_18 h (fun v3 rv3 h => ?_)
  refine lv_iconst hx hb dX6_goOnWithTest_19 (v := jI 3) rfl ?_
  refine ycI (n := 2) (e_7_item rv3 (by decide) h) 7 6 (r := (RX7, TX7, 9)) rfl yG_6_109 yD_7_item X hw rfl yGo_7 (Nat.le_trans (Nat.le_of_ble_eq_true rfl) hRf) (Nat.le_trans (Nat.le_of_ble_eq_true rfl) hRl) rfl hl.1 (Nat.le_of_ble_eq_true rfl) rfl dX6_goOnWithTest_20 (fun v4 u H locs rv4 h hw => ?_)
  refine lv_istore_n hx hb dX6_goOnWithTest_23 rfl hl (by decide) rfl (fun ls hl => ?_)
  have hl : lv_has ls 5 [(3, .int (jI v4)), (2, .int (jI v2)), (0, .ref (ad 0 5)), (1, .ref (ad 7 a0.toNat))] := hl
  refine lv_aload_n hx hb dX6_goOnWithTest_24 rfl (lv_at hl 2 rfl) ?_
  refine yg_6_39 X hw dX6_goOnWithTest_25 ?_
  refine lv_aload_n hx hb dX6_goOnWithTest_28 rfl (lv_at hl 2 rfl) ?_
  refine yg_6_20 X hw dX6_goOnWithTest_29 h (fun v5 rv5 h => ?_)
  refine ycI (n := 1) (e_7_isConstant rv5 h) 7 6 (r := (RX7, TX7, 9)) rfl yG_6_165 yD_7_isConstant X hw rfl yGo_7 (Nat.le_trans (Nat.le_of_ble_eq_true rfl) hRf) (Nat.le_trans (Nat.le_of_ble_eq_true rfl) hRl) rfl hl.1 (Nat.le_of_ble_eq_true rfl) rfl dX6_goOnWithTest_32 (fun v6 u H locs rv6 h hw => ?_)
  refine k_if_eq hx hb rv6 dX6_goOnWithTest_35 (tgt := 56) rfl h (fun h => ?_) (fun h => ?_)
  · refine lv_aload_n hx hb dX6_goOnWithTest_56 rfl (lv_at hl 2 rfl) ?_
    refine yg_6_39 X hw dX6_goOnWithTest_57 ?_
    refine lv_aload_n hx hb dX6_goOnWithTest_60 rfl (lv_at hl 2 rfl) ?_
    refine yg_6_20 X hw dX6_goOnWithTest_61 h (fun v7 rv7 h => ?_)
    refine lv_bipush hx hb dX6_goOnWithTest_64 (v := jI 16) rfl ?_
    refine ycI (n := 2) (e_7_isCallOf rv7 (by decide) h) 7 6 (r := (RX7, TX7, 9)) rfl yG_6_175 yD_7_isCallOf X hw rfl yGo_7 (Nat.le_trans (Nat.le_of_ble_eq_true rfl) hRf) (Nat.le_trans (Nat.le_of_ble_eq_true rfl) hRl) rfl hl.1 (Nat.le_of_ble_eq_true rfl) rfl dX6_goOnWithTest_66 (fun v8 u H locs rv8 h hw => ?_)
    refine lv_istore hx hb dX6_goOnWithTest_69 hl (by decide) rfl (fun ls hl => ?_)
    have hl : lv_has ls 5 [(4, .int (jI v8)), (3, .int (jI v4)), (2, .int (jI v2)), (0, .ref (ad 0 5)), (1, .ref (ad 7 a0.toNat))] := hl
    refine lv_aload_n hx hb dX6_goOnWithTest_71 rfl (lv_at hl 4 rfl) ?_
    refine lv_iconst hx hb dX6_goOnWithTest_72 (v := jI 5) rfl ?_
    refine lv_iload hx hb dX6_goOnWithTest_73 (lv_at hl 0 rfl) ?_
    refine k_if_eq hx hb rv8 dX6_goOnWithTest_75 (tgt := 93) rfl h (fun h => ?_) (fun h => ?_)
    · refine lv_aload_n hx hb dX6_goOnWithTest_93 rfl (lv_at hl 3 rfl) ?_
      refine yg_6_20 X hw dX6_goOnWithTest_94 h (fun v9 rv9 h => ?_)
      exact f_6_goOnWithTest_97 X hRf hRl hret ra0 rv2 rv4 rv8 ra0 (by decide) rv9 hw (lv_sub hl [3, 4, 2, 1, 0] rfl) h
    · refine lv_aload_n hx hb dX6_goOnWithTest_78 rfl (lv_at hl 3 rfl) ?_
      refine yg_6_39 X hw dX6_goOnWithTest_79 ?_
      refine lv_aload_n hx hb dX6_goOnWithTest_82 rfl (lv_at hl 3 rfl) ?_
      refine yg_6_20 X hw dX6_goOnWithTest_83 h (fun v16 rv16 h => ?_)
      refine lv_iconst hx hb dX6_goOnWithTest_86 (v := jI 1) rfl ?_
      refine ycI (n := 2) (e_7_item rv16 (by decide) h) 7 6 (r := (RX7, TX7, 9)) rfl yG_6_109 yD_7_item X hw rfl yGo_7 (Nat.le_trans (Nat.le_of_ble_eq_true rfl) hRf) (Nat.le_trans (Nat.le_of_ble_eq_true rfl) hRl) rfl hl.1 (Nat.le_of_ble_eq_true rfl) rfl dX6_goOnWithTest_87 (fun v17 u H locs rv17 h hw => ?_)
      refine lv_goto hx hb dX6_goOnWithTest_90 (tgt := 97) rfl ?_
      exact f_6_goOnWithTest_97 X hRf hRl hret ra0 rv2 rv4 rv8 ra0 (by decide) rv17 hw (lv_sub hl [3, 4, 2, 1, 0] rfl) h
  · refine lv_aload_n hx hb dX6_goOnWithTest_38 rfl (lv_at hl 2 rfl) ?_
    refine lv_aload_n hx hb dX6_goOnWithTest_39 rfl (lv_at hl 3 rfl) ?_
    refine lv_aload_n hx hb dX6_goOnWithTest_40 rfl (lv_at hl 2 rfl) ?_
    refine yg_6_20 X hw dX6_goOnWithTest_41 h (fun v18 rv18 h => ?_)
    refine k_if_eq hx hb rv18 dX6_goOnWithTest_44 (tgt := 51) rfl h (fun h => ?_) (fun h => ?_)
    · refine lv_iload_n hx hb dX6_goOnWithTest_51 rfl (lv_at hl 0 rfl) ?_
      exact f_6_goOnWithTest_52 X hRf hRl hret ra0 rv4 hw (lv_sub hl [2] rfl) h
    · refine lv_iload_n hx hb dX6_goOnWithTest_47 rfl (lv_at hl 1 rfl) ?_
      refine lv_goto hx hb dX6_goOnWithTest_48 (tgt := 52) rfl ?_
      exact f_6_goOnWithTest_52 X hRf hRl hret ra0 rv2 hw (lv_sub hl [2] rfl) h

end
theorem e_6_goOnWithTest {l : Launch} {a0 : Int} (ra0 : (0 ≤ a0 ∧ a0 < 60)) {Q : iST → Prop} {u : iST} (h : v_6_goOnWithTest a0 Q u) : yMV l yX6_goOnWithTest (.code yX6_goOnWithTest cX6_goOnWithTest 5 none :: wsN) { frames := 3, cells := 0, slots := 0, locals := 106 } (fun ad => [.ref (ad 0 5), .ref (ad 7 a0.toNat)]) Q u := yMV_of (own := RX6) rfl (by decide +kernel) (fun _ => Nat.le_of_ble_eq_true rfl) (fun X hRf hRl hret hw hl => f_6_goOnWithTest_s X hRf hRl hret ra0 hw hl h)

/-! ProofHouse$Rewriter.goOnWithThen -/
theorem dX6_goOnWithThen_0 : decode cX6_goOnWithThen 0 = .ok (.aload_n 1, 1) := by decide +kernel
theorem dX6_goOnWithThen_1 : decode cX6_goOnWithThen 1 = .ok (.bipush 7, 2) := by decide +kernel
theorem dX6_goOnWithThen_3 : decode cX6_goOnWithThen 3 = .ok (.aload_n 0, 1) := by decide +kernel
theorem dX6_goOnWithThen_4 : decode cX6_goOnWithThen 4 = .ok (.getfield 20, 3) := by decide +kernel
theorem dX6_goOnWithThen_7 : decode cX6_goOnWithThen 7 = .ok (.iastore, 1) := by decide +kernel
theorem dX6_goOnWithThen_8 : decode cX6_goOnWithThen 8 = .ok (.aload_n 1, 1) := by decide +kernel
theorem dX6_goOnWithThen_9 : decode cX6_goOnWithThen 9 = .ok (.iconst 3, 1) := by decide +kernel
theorem dX6_goOnWithThen_10 : decode cX6_goOnWithThen 10 = .ok (.iconst 4, 1) := by decide +kernel
theorem dX6_goOnWithThen_11 : decode cX6_goOnWithThen 11 = .ok (.iastore, 1) := by decide +kernel
theorem dX6_goOnWithThen_12 : decode cX6_goOnWithThen 12 = .ok (.aload_n 0, 1) := by decide +kernel
theorem dX6_goOnWithThen_13 : decode cX6_goOnWithThen 13 = .ok (.getfield 47, 3) := by decide +kernel
theorem dX6_goOnWithThen_16 : decode cX6_goOnWithThen 16 = .ok (.aload_n 1, 1) := by decide +kernel
theorem dX6_goOnWithThen_17 : decode cX6_goOnWithThen 17 = .ok (.iconst 5, 1) := by decide +kernel
theorem dX6_goOnWithThen_18 : decode cX6_goOnWithThen 18 = .ok (.iaload, 1) := by decide +kernel
theorem dX6_goOnWithThen_19 : decode cX6_goOnWithThen 19 = .ok (.invokevirtual 199, 3) := by decide +kernel
theorem dX6_goOnWithThen_22 : decode cX6_goOnWithThen 22 = .ok (.istore_n 2, 1) := by decide +kernel
theorem dX6_goOnWithThen_23 : decode cX6_goOnWithThen 23 = .ok (.aload_n 0, 1) := by decide +kernel
theorem dX6_goOnWithThen_24 : decode cX6_goOnWithThen 24 = .ok (.getfield 39, 3) := by decide +kernel
theorem dX6_goOnWithThen_27 : decode cX6_goOnWithThen 27 = .ok (.getfield 77, 3) := by decide +kernel
theorem dX6_goOnWithThen_30 : decode cX6_goOnWithThen 30 = .ok (.ifCond .ne 28, 3) := by decide +kernel
theorem dX6_goOnWithThen_33 : decode cX6_goOnWithThen 33 = .ok (.aload_n 0, 1) := by decide +kernel
theorem dX6_goOnWithThen_34 : decode cX6_goOnWithThen 34 = .ok (.aload_n 1, 1) := by decide +kernel
theorem dX6_goOnWithThen_35 : decode cX6_goOnWithThen 35 = .ok (.bipush 6, 2) := by decide +kernel
theorem dX6_goOnWithThen_37 : decode cX6_goOnWithThen 37 = .ok (.iaload, 1) := by decide +kernel
theorem dX6_goOnWithThen_38 : decode cX6_goOnWithThen 38 = .ok (.aload_n 1, 1) := by decide +kernel
theorem dX6_goOnWithThen_39 : decode cX6_goOnWithThen 39 = .ok (.iconst 1, 1) := by decide +kernel
theorem dX6_goOnWithThen_40 : decode cX6_goOnWithThen 40 = .ok (.iaload, 1) := by decide +kernel
theorem dX6_goOnWithThen_41 : decode cX6_goOnWithThen 41 = .ok (.aload_n 0, 1) := by decide +kernel
theorem dX6_goOnWithThen_42 : decode cX6_goOnWithThen 42 = .ok (.getfield 39, 3) := by decide +kernel
theorem dX6_goOnWithThen_45 : decode cX6_goOnWithThen 45 = .ok (.iload_n 2, 1) := by decide +kernel
theorem dX6_goOnWithThen_46 : decode cX6_goOnWithThen 46 = .ok (.aload_n 1, 1) := by decide +kernel
theorem dX6_goOnWithThen_47 : decode cX6_goOnWithThen 47 = .ok (.iconst 2, 1) := by decide +kernel
theorem dX6_goOnWithThen_48 : decode cX6_goOnWithThen 48 = .ok (.iaload, 1) := by decide +kernel
theorem dX6_goOnWithThen_49 : decode cX6_goOnWithThen 49 = .ok (.invokestatic 191, 3) := by decide +kernel
theorem dX6_goOnWithThen_52 : decode cX6_goOnWithThen 52 = .ok (.invokevirtual 195, 3) := by decide +kernel
theorem dX6_goOnWithThen_55 : decode cX6_goOnWithThen 55 = .ok (.invokevirtual 72, 3) := by decide +kernel
theorem dX6_goOnWithThen_58 : decode cX6_goOnWithThen 58 = .ok (.return_, 1) := by decide +kernel

section
variable {p : Program} {l : Launch} {e : Env} {R : Room} {s : State} {m : MethodId} {args : Array Value} {below : List Frame} {meth : Method} {c : Code} {H : Heap} {locs : List Loc} {Qf : State → Prop}
variable {ls : Array Slot} {D : va_G} {ca : Nat → ClassId} {A : Nat → Prop} {ad : Nat → Nat → Nat} {u : iST}
def v_6_goOnWithThen (a0 : Int) (Q : iST → Prop) (u : iST) : Prop :=
  rd (u.1 24) (fun v1 => 
  bd 7 17 (sw (iA u 51 (17 * a0 + 7) v1) (fun u => 
  bd 3 17 (sw (iA u 51 (17 * a0 + 3) 4) (fun u => 
  bd 5 17 (rd (u.2.1 51 (17 * a0 + 5)) (fun v2 => 
  v_10_negated v2 (fun v3 u => 
  rd (u.1 32) (fun v4 => 
  br (v4 ≠ 0) (
    Q u) (
    bd 6 17 (rd (u.2.1 51 (17 * a0 + 6)) (fun v5 => 
    bd 1 17 (rd (u.2.1 51 (17 * a0 + 1)) (fun v6 => 
    bd 2 17 (rd (u.2.1 51 (17 * a0 + 2)) (fun v7 => 
    v_11_pairCell v3 v7 (fun v8 u => 
    v_7_made v8 (fun v9 u => 
    v_6_ask v5 v6 v9 (fun u => 
    Q u) u) u) u))))))))) u)))))))
set_option maxRecDepth 20000 in
set_option maxHeartbeats 4000000 in
theorem f_6_goOnWithThen_s (X : yX RX6 p m c cX6_goOnWithThen 3 s args D ca ad A) (hRf : 3 ≤ R.frames) (hRl : 84 ≤ R.locals) {Q : iST → Prop} (hret : ∀ (u : iST) (H : Heap) (locs : List Loc) (ls : Array Slot) (pc : Nat), Q u → yW D ca A ad s H locs u → decode cX6_goOnWithThen pc = .ok (.return_, 1) → W p l e R s m args below meth c H locs 0 0 Qf (F0 m pc ls [])) {a0 : Int} (ra0 : (0 ≤ a0 ∧ a0 < 60)) (hw : yW D ca A ad s H locs u) (hl : lv_has ls 3 [(0, .ref (ad 0 5)), (1, .ref (ad 7 a0.toNat))]) (h : v_6_goOnWithThen a0 Q u) : W p l e R s m args below meth c H locs 0 0 Qf (F0 m 0 ls []) := by
  have hx := X.1.1
  have hb := X.1.2.1
  unfold v_6_goOnWithThen at h
  refine lv_aload_n hx hb dX6_goOnWithThen_0 rfl (lv_at hl 1 rfl) ?_
  refine lv_bipush hx hb dX6_goOnWithThen_1 (v := jI 7) rfl ?_
  refine lv_aload_n hx hb dX6_goOnWithThen_3 rfl (lv_at hl 0 rfl) ?_
  refine yg_6_20 X hw dX6_goOnWithThen_4 h (fun v1 rv1 h => ?_)
  refine yft_frames X hw ra0 (by decide) rv1 dX6_goOnWithThen_7 h (fun H locs u hw h => ?_)
  refine lv_aload_n hx hb dX6_goOnWithThen_8 rfl (lv_at hl 1 rfl) ?_
  refine lv_iconst hx hb dX6_goOnWithThen_9 (v := jI 3) rfl ?_
  refine lv_iconst hx hb dX6_goOnWithThen_10 (v := jI 4) rfl ?_
  refine yft_frames X hw ra0 (by decide) (by decide) dX6_goOnWithThen_11 h (fun H locs u hw h => ?_)
  refine lv_aload_n hx hb dX6_goOnWithThen_12 rfl (lv_at hl 0 rfl) ?_
  refine yg_6_47 X hw dX6_goOnWithThen_13 ?_
  refine lv_aload_n hx hb dX6_goOnWithThen_16 rfl (lv_at hl 1 rfl) ?_
  refine lv_iconst hx hb dX6_goOnWithThen_17 (v := jI 5) rfl ?_
  refine yfl_frames X hw ra0 (by decide) dX6_goOnWithThen_18 h (fun v2 rv2 h => ?_)
  refine ycI (n := 1) (e_10_negated rv2 h) 10 8 (r := (RX10, TX10, 16)) rfl yG_6_199 yD_10_negated X hw rfl yGo_10 (Nat.le_trans (Nat.le_of_ble_eq_true rfl) hRf) (Nat.le_trans (Nat.le_of_ble_eq_true rfl) hRl) rfl hl.1 (Nat.le_of_ble_eq_true rfl) rfl dX6_goOnWithThen_19 (fun v3 u H locs rv3 h hw => ?_)
  refine lv_istore_n hx hb dX6_goOnWithThen_22 rfl hl (by decide) rfl (fun ls hl => ?_)
  have hl : lv_has ls 3 [(2, .int (jI v3)), (0, .ref (ad 0 5)), (1, .ref (ad 7 a0.toNat))] := hl
  refine lv_aload_n hx hb dX6_goOnWithThen_23 rfl (lv_at hl 1 rfl) ?_
  refine yg_6_39 X hw dX6_goOnWithThen_24 ?_
  refine yg_6_77 X hw dX6_goOnWithThen_27 h (fun v4 rv4 h => ?_)
  refine k_if_ne hx hb rv4 dX6_goOnWithThen_30 (tgt := 58) rfl h (fun h => ?_) (fun h => ?_)
  · exact hret _ _ _ _ _ h hw dX6_goOnWithThen_58
  · refine lv_aload_n hx hb dX6_goOnWithThen_33 rfl (lv_at hl 1 rfl) ?_
    refine lv_aload_n hx hb dX6_goOnWithThen_34 rfl (lv_at hl 2 rfl) ?_
    refine lv_bipush hx hb dX6_goOnWithThen_35 (v := jI 6) rfl ?_
    refine yfl_frames X hw ra0 (by decide) dX6_goOnWithThen_37 h (fun v5 rv5 h => ?_)
    refine lv_aload_n hx hb dX6_goOnWithThen_38 rfl (lv_at hl 2 rfl) ?_
    refine lv_iconst hx hb dX6_goOnWithThen_39 (v := jI 1) rfl ?_
    refine yfl_frames X hw ra0 (by decide) dX6_goOnWithThen_40 h (fun v6 rv6 h => ?_)
    refine lv_aload_n hx hb dX6_goOnWithThen_41 rfl (lv_at hl 1 rfl) ?_
    refine yg_6_39 X hw dX6_goOnWithThen_42 ?_
    refine lv_iload_n hx hb dX6_goOnWithThen_45 rfl (lv_at hl 0 rfl) ?_
    refine lv_aload_n hx hb dX6_goOnWithThen_46 rfl (lv_at hl 2 rfl) ?_
    refine lv_iconst hx hb dX6_goOnWithThen_47 (v := jI 2) rfl ?_
    refine yfl_frames X hw ra0 (by decide) dX6_goOnWithThen_48 h (fun v7 rv7 h => ?_)
    refine ycSN (n := 2) (e_11_pairCell rv3 rv7 h) (host := "ProofHouse") rfl goodPair yD_11_pairCell.2 X hw (yNm_6_191 X.2.2.1) (ysI_in (List.mem_of_getElem? (i := 11) rfl)) statPair (Nat.le_trans (Nat.le_of_ble_eq_true rfl) hRf) (Nat.le_trans (Nat.le_of_ble_eq_true rfl) hRl) rfl hl.1 (Nat.le_of_ble_eq_true rfl) rfl dX6_goOnWithThen_49 (fun v8 u H locs rv8 h hw => ?_)
    refine ycI (n := 1) (e_7_made rv8 h) 7 6 (r := (RX7, TX7, 9)) rfl yG_6_195 yD_7_made X hw rfl yGo_7 (Nat.le_trans (Nat.le_of_ble_eq_true rfl) hRf) (Nat.le_trans (Nat.le_of_ble_eq_true rfl) hRl) rfl hl.1 (Nat.le_of_ble_eq_true rfl) rfl dX6_goOnWithThen_52 (fun v9 u H locs rv9 h hw => ?_)
    refine ycV (n := 3) (e_6_ask rv5 rv6 rv9 h) 6 5 (r := (RX6, TX6, 14)) rfl yG_6_72 yD_6_ask X hw rfl yGo_6 (Nat.le_trans (Nat.le_of_ble_eq_true rfl) hRf) (Nat.le_trans (Nat.le_of_ble_eq_true rfl) hRl) rfl hl.1 (Nat.le_of_ble_eq_true rfl) rfl dX6_goOnWithThen_55 (fun u H locs h hw => ?_)
    exact hret _ _ _ _ _ h hw dX6_goOnWithThen_58

end
theorem e_6_goOnWithThen {l : Launch} {a0 : Int} (ra0 : (0 ≤ a0 ∧ a0 < 60)) {Q : iST → Prop} {u : iST} (h : v_6_goOnWithThen a0 Q u) : yMV l yX6_goOnWithThen (.code yX6_goOnWithThen cX6_goOnWithThen 3 none :: wsN) { frames := 3, cells := 0, slots := 0, locals := 84 } (fun ad => [.ref (ad 0 5), .ref (ad 7 a0.toNat)]) Q u := yMV_of (own := RX6) rfl (by decide +kernel) (fun _ => Nat.le_of_ble_eq_true rfl) (fun X hRf hRl hret hw hl => f_6_goOnWithThen_s X hRf hRl hret ra0 hw hl h)

/-! ProofHouse$Rewriter.choice -/
theorem dX6_choice_0 : decode cX6_choice 0 = .ok (.iload_n 2, 1) := by decide +kernel
theorem dX6_choice_1 : decode cX6_choice 1 = .ok (.iload_n 3, 1) := by decide +kernel
theorem dX6_choice_2 : decode cX6_choice 2 = .ok (.if_icmp .ne 5, 3) := by decide +kernel
theorem dX6_choice_5 : decode cX6_choice 5 = .ok (.iload_n 2, 1) := by decide +kernel
theorem dX6_choice_6 : decode cX6_choice 6 = .ok (.ireturn, 1) := by decide +kernel
theorem dX6_choice_7 : decode cX6_choice 7 = .ok (.iload_n 2, 1) := by decide +kernel
theorem dX6_choice_8 : decode cX6_choice 8 = .ok (.iconst 1, 1) := by decide +kernel
theorem dX6_choice_9 : decode cX6_choice 9 = .ok (.if_icmp .ne 26, 3) := by decide +kernel
theorem dX6_choice_12 : decode cX6_choice 12 = .ok (.iload_n 3, 1) := by decide +kernel
theorem dX6_choice_13 : decode cX6_choice 13 = .ok (.ifCond .ne 22, 3) := by decide +kernel
theorem dX6_choice_16 : decode cX6_choice 16 = .ok (.iload 4, 2) := by decide +kernel
theorem dX6_choice_18 : decode cX6_choice 18 = .ok (.iconst 1, 1) := by decide +kernel
theorem dX6_choice_19 : decode cX6_choice 19 = .ok (.if_icmp .eq 14, 3) := by decide +kernel
theorem dX6_choice_22 : decode cX6_choice 22 = .ok (.aload_n 0, 1) := by decide +kernel
theorem dX6_choice_23 : decode cX6_choice 23 = .ok (.getfield 47, 3) := by decide +kernel
theorem dX6_choice_26 : decode cX6_choice 26 = .ok (.iload_n 1, 1) := by decide +kernel
theorem dX6_choice_27 : decode cX6_choice 27 = .ok (.invokevirtual 202, 3) := by decide +kernel
theorem dX6_choice_30 : decode cX6_choice 30 = .ok (.ifCond .eq 5, 3) := by decide +kernel
theorem dX6_choice_33 : decode cX6_choice 33 = .ok (.iload_n 1, 1) := by decide +kernel
theorem dX6_choice_34 : decode cX6_choice 34 = .ok (.ireturn, 1) := by decide +kernel
theorem dX6_choice_35 : decode cX6_choice 35 = .ok (.iload_n 2, 1) := by decide +kernel
theorem dX6_choice_36 : decode cX6_choice 36 = .ok (.ifCond .ne 21, 3) := by decide +kernel
theorem dX6_choice_39 : decode cX6_choice 39 = .ok (.iload_n 3, 1) := by decide +kernel
theorem dX6_choice_40 : decode cX6_choice 40 = .ok (.iconst 1, 1) := by decide +kernel
theorem dX6_choice_41 : decode cX6_choice 41 = .ok (.if_icmp .ne 16, 3) := by decide +kernel
theorem dX6_choice_44 : decode cX6_choice 44 = .ok (.aload_n 0, 1) := by decide +kernel
theorem dX6_choice_45 : decode cX6_choice 45 = .ok (.getfield 47, 3) := by decide +kernel
theorem dX6_choice_48 : decode cX6_choice 48 = .ok (.bipush 16, 2) := by decide +kernel
theorem dX6_choice_50 : decode cX6_choice 50 = .ok (.iload_n 1, 1) := by decide +kernel
theorem dX6_choice_51 : decode cX6_choice 51 = .ok (.iconst (-1), 1) := by decide +kernel
theorem dX6_choice_52 : decode cX6_choice 52 = .ok (.iconst (-1), 1) := by decide +kernel
theorem dX6_choice_53 : decode cX6_choice 53 = .ok (.invokevirtual 179, 3) := by decide +kernel
theorem dX6_choice_56 : decode cX6_choice 56 = .ok (.ireturn, 1) := by decide +kernel
theorem dX6_choice_57 : decode cX6_choice 57 = .ok (.aload_n 0, 1) := by decide +kernel
theorem dX6_choice_58 : decode cX6_choice 58 = .ok (.getfield 47, 3) := by decide +kernel
theorem dX6_choice_61 : decode cX6_choice 61 = .ok (.iconst 3, 1) := by decide +kernel
theorem dX6_choice_62 : decode cX6_choice 62 = .ok (.iload_n 1, 1) := by decide +kernel
theorem dX6_choice_63 : decode cX6_choice 63 = .ok (.iload_n 2, 1) := by decide +kernel
theorem dX6_choice_64 : decode cX6_choice 64 = .ok (.iload_n 3, 1) := by decide +kernel
theorem dX6_choice_65 : decode cX6_choice 65 = .ok (.invokevirtual 179, 3) := by decide +kernel
theorem dX6_choice_68 : decode cX6_choice 68 = .ok (.ireturn, 1) := by decide +kernel

section
variable {p : Program} {l : Launch} {e : Env} {R : Room} {s : State} {m : MethodId} {args : Array Value} {below : List Frame} {meth : Method} {c : Code} {H : Heap} {locs : List Loc} {Qf : State → Prop}
variable {ls : Array Slot} {D : va_G} {ca : Nat → ClassId} {A : Nat → Prop} {ad : Nat → Nat → Nat} {u : iST}
def v_6_choice_57 (Q : Int → iST → Prop) (x1 : Int) (x2 : Int) (x3 : Int) (u : iST) : Prop :=
  v_10_call 3 x1 x2 x3 (fun v1 u => 
  Q v1 u) u
set_option maxRecDepth 20000 in
set_option maxHeartbeats 4000000 in
theorem f_6_choice_57 (X : yX RX6 p m c cX6_choice 5 s args D ca ad A) (hRf : 2 ≤ R.frames) (hRl : 56 ≤ R.locals) {Q : Int → iST → Prop} (hret : ∀ (v : Int) (u : iST) (H : Heap) (locs : List Loc) (ls : Array Slot) (pc : Nat), inR v → Q v u → yW D ca A ad s H locs u → decode cX6_choice pc = .ok (.ireturn, 1) → W p l e R s m args below meth c H locs 0 0 Qf (F0 m pc ls [.int (jI v)])) {x1 x2 x3 : Int} (rx1 : inR x1) (rx2 : inR x2) (rx3 : inR x3) (hw : yW D ca A ad s H locs u) (hl : lv_has ls 5 [(0, .ref (ad 0 5)), (1, .int (jI x1)), (2, .int (jI x2)), (3, .int (jI x3))]) (h : v_6_choice_57 Q x1 x2 x3 u) : W p l e R s m args below meth c H locs 0 0 Qf (F0 m 57 ls []) := by
  have hx := X.1.1
  have hb := X.1.2.1
  unfold v_6_choice_57 at h
  refine lv_aload_n hx hb dX6_choice_57 rfl (lv_at hl 0 rfl) ?_
  refine yg_6_47 X hw dX6_choice_58 ?_
  refine lv_iconst hx hb dX6_choice_61 (v := jI 3) rfl ?_
  refine lv_iload_n hx hb dX6_choice_62 rfl (lv_at hl 1 rfl) ?_
  refine lv_iload_n hx hb dX6_choice_63 rfl (lv_at hl 2 rfl) ?_
  refine lv_iload_n hx hb dX6_choice_64 rfl (lv_at hl 3 rfl) ?_
  refine ycI (n := 4) (e_10_call (by decide) rx1 rx2 rx3 h) 10 8 (r := (RX10, TX10, 16)) rfl yG_6_179 yD_10_call X hw rfl yGo_10 (Nat.le_trans (Nat.le_of_ble_eq_true rfl) hRf) (Nat.le_trans (Nat.le_of_ble_eq_true rfl) hRl) rfl hl.1 (Nat.le_of_ble_eq_true rfl) rfl dX6_choice_65 (fun v1 u H locs rv1 h hw => ?_)
  exact hret _ _ _ _ _ _ rv1 h hw dX6_choice_68

def v_6_choice_35 (Q : Int → iST → Prop) (x1 : Int) (x2 : Int) (x3 : Int) (u : iST) : Prop :=
  br (x2 ≠ 0) (
    v_6_choice_57 Q x1 x2 x3 u) (
    br (x3 ≠ 1) (
      v_6_choice_57 Q x1 x2 x3 u) (
      v_10_call 16 x1 (-1) (-1) (fun v2 u => 
      Q v2 u) u))
set_option maxRecDepth 20000 in
set_option maxHeartbeats 4000000 in
theorem f_6_choice_35 (X : yX RX6 p m c cX6_choice 5 s args D ca ad A) (hRf : 2 ≤ R.frames) (hRl : 56 ≤ R.locals) {Q : Int → iST → Prop} (hret : ∀ (v : Int) (u : iST) (H : Heap) (locs : List Loc) (ls : Array Slot) (pc : Nat), inR v → Q v u → yW D ca A ad s H locs u → decode cX6_choice pc = .ok (.ireturn, 1) → W p l e R s m args below meth c H locs 0 0 Qf (F0 m pc ls [.int (jI v)])) {x1 x2 x3 : Int} (rx1 : inR x1) (rx2 : inR x2) (rx3 : inR x3) (hw : yW D ca A ad s H locs u) (hl : lv_has ls 5 [(0, .ref (ad 0 5)), (1, .int (jI x1)), (2, .int (jI x2)), (3, .int (jI x3))]) (h : v_6_choice_35 Q x1 x2 x3 u) : W p l e R s m args below meth c H locs 0 0 Qf (F0 m 35 ls []) := by
  have hx := X.1.1
  have hb := X.1.2.1
  unfold v_6_choice_35 at h
  refine lv_iload_n hx hb dX6_choice_35 rfl (lv_at hl 2 rfl) ?_
  refine k_if_ne hx hb rx2 dX6_choice_36 (tgt := 57) rfl h (fun h => ?_) (fun h => ?_)
  · exact f_6_choice_57 X hRf hRl hret rx1 rx2 rx3 hw hl h
  · refine lv_iload_n hx hb dX6_choice_39 rfl (lv_at hl 3 rfl) ?_
    refine lv_iconst hx hb dX6_choice_40 (v := jI 1) rfl ?_
    refine k_icmp_ne hx hb rx3 (by decide) dX6_choice_41 (tgt := 57) rfl h (fun h => ?_) (fun h => ?_)
    · exact f_6_choice_57 X hRf hRl hret rx1 rx2 rx3 hw hl h
    · refine lv_aload_n hx hb dX6_choice_44 rfl (lv_at hl 0 rfl) ?_
      refine yg_6_47 X hw dX6_choice_45 ?_
      refine lv_bipush hx hb dX6_choice_48 (v := jI 16) rfl ?_
      refine lv_iload_n hx hb dX6_choice_50 rfl (lv_at hl 1 rfl) ?_
      refine lv_iconst hx hb dX6_choice_51 (v := jI (-1)) rfl ?_
      refine lv_iconst hx hb dX6_choice_52 (v := jI (-1)) rfl ?_
      refine ycI (n := 4) (e_10_call (by decide) rx1 (by decide) (by decide) h) 10 8 (r := (RX10, TX10, 16)) rfl yG_6_179 yD_10_call X hw rfl yGo_10 (Nat.le_trans (Nat.le_of_ble_eq_true rfl) hRf) (Nat.le_trans (Nat.le_of_ble_eq_true rfl) hRl) rfl hl.1 (Nat.le_of_ble_eq_true rfl) rfl dX6_choice_53 (fun v2 u H locs rv2 h hw => ?_)
      exact hret _ _ _ _ _ _ rv2 h hw dX6_choice_56

def v_6_choice (a0 : Int) (a1 : Int) (a2 : Int) (a3 : Int) (Q : Int → iST → Prop) (u : iST) : Prop :=
  br (a1 ≠ a2) (
    br (a1 ≠ 1) (
      v_6_choice_35 Q a0 a1 a2 u) (
      br (a2 ≠ 0) (
        v_6_choice_35 Q a0 a1 a2 u) (
        br (a3 = 1) (
          Q a0 u) (
          v_10_isBoolean a0 (fun v3 u => 
          br (v3 = 0) (
            v_6_choice_35 Q a0 a1 a2 u) (
            Q a0 u)) u)))) (
    Q a1 u)
set_option maxRecDepth 20000 in
set_option maxHeartbeats 4000000 in
theorem f_6_choice_s (X : yX RX6 p m c cX6_choice 5 s args D ca ad A) (hRf : 2 ≤ R.frames) (hRl : 56 ≤ R.locals) {Q : Int → iST → Prop} (hret : ∀ (v : Int) (u : iST) (H : Heap) (locs : List Loc) (ls : Array Slot) (pc : Nat), inR v → Q v u → yW D ca A ad s H locs u → decode cX6_choice pc = .ok (.ireturn, 1) → W p l e R s m args below meth c H locs 0 0 Qf (F0 m pc ls [.int (jI v)])) {a0 a1 a2 a3 : Int} (ra0 : inR a0) (ra1 : inR a1) (ra2 : inR a2) (ra3 : inR a3) (hw : yW D ca A ad s H locs u) (hl : lv_has ls 5 [(0, .ref (ad 0 5)), (1, .int (jI a0)), (2, .int (jI a1)), (3, .int (jI a2)), (4, .int (jI a3))]) (h : v_6_choice a0 a1 a2 a3 Q u) : W p l e R s m args below meth c H locs 0 0 Qf (F0 m 0 ls []) := by
  have hx := X.1.1
  have hb := X.1.2.1
  unfold v_6_choice at h
  refine lv_iload_n hx hb dX6_choice_0 rfl (lv_at hl 2 rfl) ?_
  refine lv_iload_n hx hb dX6_choice_1 rfl (lv_at hl 3 rfl) ?_
  refine k_icmp_ne hx hb ra1 ra2 dX6_choice_2 (tgt := 7) rfl h (fun h => ?_) (fun h => ?_)
  · refine lv_iload_n hx hb dX6_choice_7 rfl (lv_at hl 2 rfl) ?_
    refine lv_iconst hx hb dX6_choice_8 (v := jI 1) rfl ?_
    refine k_icmp_ne hx hb ra1 (by decide) dX6_choice_9 (tgt := 35) rfl h (fun h => ?_) (fun h => ?_)
    · exact f_6_choice_35 X hRf hRl hret ra0 ra1 ra2 hw (lv_sub hl [0, 1, 2, 3] rfl) h
    · refine lv_iload_n hx hb dX6_choice_12 rfl (lv_at hl 3 rfl) ?_
      refine k_if_ne hx hb ra2 dX6_choice_13 (tgt := 35) rfl h (fun h => ?_) (fun h => ?_)
      · exact f_6_choice_35 X hRf hRl hret ra0 ra1 ra2 hw (lv_sub hl [0, 1, 2, 3] rfl) h
      · refine lv_iload hx hb dX6_choice_16 (lv_at hl 4 rfl) ?_
        refine lv_iconst hx hb dX6_choice_18 (v := jI 1) rfl ?_
        refine k_icmp_eq hx hb ra3 (by decide) dX6_choice_19 (tgt := 33) rfl h (fun h => ?_) (fun h => ?_)
        · refine lv_iload_n hx hb dX6_choice_33 rfl (lv_at hl 1 rfl) ?_
          exact hret _ _ _ _ _ _ ra0 h hw dX6_choice_34
        · refine lv_aload_n hx hb dX6_choice_22 rfl (lv_at hl 0 rfl) ?_
          refine yg_6_47 X hw dX6_choice_23 ?_
          refine lv_iload_n hx hb dX6_choice_26 rfl (lv_at hl 1 rfl) ?_
          refine ycI (n := 1) (e_10_isBoolean ra0 h) 10 8 (r := (RX10, TX10, 16)) rfl yG_6_202 yD_10_isBoolean X hw rfl yGo_10 (Nat.le_trans (Nat.le_of_ble_eq_true rfl) hRf) (Nat.le_trans (Nat.le_of_ble_eq_true rfl) hRl) rfl hl.1 (Nat.le_of_ble_eq_true rfl) rfl dX6_choice_27 (fun v3 u H locs rv3 h hw => ?_)
          refine k_if_eq hx hb rv3 dX6_choice_30 (tgt := 35) rfl h (fun h => ?_) (fun h => ?_)
          · exact f_6_choice_35 X hRf hRl hret ra0 ra1 ra2 hw (lv_sub hl [0, 1, 2, 3] rfl) h
          · refine lv_iload_n hx hb dX6_choice_33 rfl (lv_at hl 1 rfl) ?_
            exact hret _ _ _ _ _ _ ra0 h hw dX6_choice_34
  · refine lv_iload_n hx hb dX6_choice_5 rfl (lv_at hl 2 rfl) ?_
    exact hret _ _ _ _ _ _ ra1 h hw dX6_choice_6

end
theorem e_6_choice {l : Launch} {a0 : Int} {a1 : Int} {a2 : Int} {a3 : Int} (ra0 : inR a0) (ra1 : inR a1) (ra2 : inR a2) (ra3 : inR a3) {Q : Int → iST → Prop} {u : iST} (h : v_6_choice a0 a1 a2 a3 Q u) : yMI l yX6_choice (.code yX6_choice cX6_choice 5 (some .int) :: wsN) { frames := 2, cells := 0, slots := 0, locals := 56 } (fun ad => [.ref (ad 0 5), .int (jI a0), .int (jI a1), .int (jI a2), .int (jI a3)]) Q u := yMI_of (own := RX6) rfl (by decide +kernel) (fun _ => Nat.le_of_ble_eq_true rfl) (fun X hRf hRl hret hw hl => f_6_choice_s X hRf hRl hret ra0 ra1 ra2 ra3 hw hl h)

/-! ProofHouse$Rewriter.goOnWithNegation -/
theorem dX6_goOnWithNegation_0 : decode cX6_goOnWithNegation 0 = .ok (.aload_n 0, 1) := by decide +kernel
theorem dX6_goOnWithNegation_1 : decode cX6_goOnWithNegation 1 = .ok (.getfield 39, 3) := by decide +kernel
theorem dX6_goOnWithNegation_4 : decode cX6_goOnWithNegation 4 = .ok (.aload_n 0, 1) := by decide +kernel
theorem dX6_goOnWithNegation_5 : decode cX6_goOnWithNegation 5 = .ok (.getfield 20, 3) := by decide +kernel
theorem dX6_goOnWithNegation_8 : decode cX6_goOnWithNegation 8 = .ok (.bipush 16, 2) := by decide +kernel
theorem dX6_goOnWithNegation_10 : decode cX6_goOnWithNegation 10 = .ok (.invokevirtual 175, 3) := by decide +kernel
theorem dX6_goOnWithNegation_13 : decode cX6_goOnWithNegation 13 = .ok (.ifCond .eq 35, 3) := by decide +kernel
theorem dX6_goOnWithNegation_16 : decode cX6_goOnWithNegation 16 = .ok (.aload_n 1, 1) := by decide +kernel
theorem dX6_goOnWithNegation_17 : decode cX6_goOnWithNegation 17 = .ok (.iconst 1, 1) := by decide +kernel
theorem dX6_goOnWithNegation_18 : decode cX6_goOnWithNegation 18 = .ok (.iaload, 1) := by decide +kernel
theorem dX6_goOnWithNegation_19 : decode cX6_goOnWithNegation 19 = .ok (.ifCond .ne 29, 3) := by decide +kernel
theorem dX6_goOnWithNegation_22 : decode cX6_goOnWithNegation 22 = .ok (.aload_n 0, 1) := by decide +kernel
theorem dX6_goOnWithNegation_23 : decode cX6_goOnWithNegation 23 = .ok (.getfield 47, 3) := by decide +kernel
theorem dX6_goOnWithNegation_26 : decode cX6_goOnWithNegation 26 = .ok (.aload_n 0, 1) := by decide +kernel
theorem dX6_goOnWithNegation_27 : decode cX6_goOnWithNegation 27 = .ok (.getfield 39, 3) := by decide +kernel
theorem dX6_goOnWithNegation_30 : decode cX6_goOnWithNegation 30 = .ok (.aload_n 0, 1) := by decide +kernel
theorem dX6_goOnWithNegation_31 : decode cX6_goOnWithNegation 31 = .ok (.getfield 20, 3) := by decide +kernel
theorem dX6_goOnWithNegation_34 : decode cX6_goOnWithNegation 34 = .ok (.iconst 1, 1) := by decide +kernel
theorem dX6_goOnWithNegation_35 : decode cX6_goOnWithNegation 35 = .ok (.invokevirtual 109, 3) := by decide +kernel
theorem dX6_goOnWithNegation_38 : decode cX6_goOnWithNegation 38 = .ok (.invokevirtual 202, 3) := by decide +kernel
theorem dX6_goOnWithNegation_41 : decode cX6_goOnWithNegation 41 = .ok (.ifCond .ne 7, 3) := by decide +kernel
theorem dX6_goOnWithNegation_44 : decode cX6_goOnWithNegation 44 = .ok (.iconst 1, 1) := by decide +kernel
theorem dX6_goOnWithNegation_45 : decode cX6_goOnWithNegation 45 = .ok (.goto 4, 3) := by decide +kernel
theorem dX6_goOnWithNegation_48 : decode cX6_goOnWithNegation 48 = .ok (.iconst 0, 1) := by decide +kernel
theorem dX6_goOnWithNegation_49 : decode cX6_goOnWithNegation 49 = .ok (.istore_n 2, 1) := by decide +kernel
theorem dX6_goOnWithNegation_50 : decode cX6_goOnWithNegation 50 = .ok (.iload_n 2, 1) := by decide +kernel
theorem dX6_goOnWithNegation_51 : decode cX6_goOnWithNegation 51 = .ok (.ifCond .eq 21, 3) := by decide +kernel
theorem dX6_goOnWithNegation_54 : decode cX6_goOnWithNegation 54 = .ok (.aload_n 0, 1) := by decide +kernel
theorem dX6_goOnWithNegation_55 : decode cX6_goOnWithNegation 55 = .ok (.getfield 47, 3) := by decide +kernel
theorem dX6_goOnWithNegation_58 : decode cX6_goOnWithNegation 58 = .ok (.bipush 16, 2) := by decide +kernel
theorem dX6_goOnWithNegation_60 : decode cX6_goOnWithNegation 60 = .ok (.aload_n 0, 1) := by decide +kernel
theorem dX6_goOnWithNegation_61 : decode cX6_goOnWithNegation 61 = .ok (.getfield 20, 3) := by decide +kernel
theorem dX6_goOnWithNegation_64 : decode cX6_goOnWithNegation 64 = .ok (.iconst (-1), 1) := by decide +kernel
theorem dX6_goOnWithNegation_65 : decode cX6_goOnWithNegation 65 = .ok (.iconst (-1), 1) := by decide +kernel
theorem dX6_goOnWithNegation_66 : decode cX6_goOnWithNegation 66 = .ok (.invokevirtual 179, 3) := by decide +kernel
theorem dX6_goOnWithNegation_69 : decode cX6_goOnWithNegation 69 = .ok (.goto 14, 3) := by decide +kernel
theorem dX6_goOnWithNegation_72 : decode cX6_goOnWithNegation 72 = .ok (.aload_n 0, 1) := by decide +kernel
theorem dX6_goOnWithNegation_73 : decode cX6_goOnWithNegation 73 = .ok (.getfield 47, 3) := by decide +kernel
theorem dX6_goOnWithNegation_76 : decode cX6_goOnWithNegation 76 = .ok (.aload_n 0, 1) := by decide +kernel
theorem dX6_goOnWithNegation_77 : decode cX6_goOnWithNegation 77 = .ok (.getfield 20, 3) := by decide +kernel
theorem dX6_goOnWithNegation_80 : decode cX6_goOnWithNegation 80 = .ok (.invokevirtual 199, 3) := by decide +kernel
theorem dX6_goOnWithNegation_83 : decode cX6_goOnWithNegation 83 = .ok (.istore_n 3, 1) := by decide +kernel
theorem dX6_goOnWithNegation_84 : decode cX6_goOnWithNegation 84 = .ok (.aload_n 0, 1) := by decide +kernel
theorem dX6_goOnWithNegation_85 : decode cX6_goOnWithNegation 85 = .ok (.aload_n 0, 1) := by decide +kernel
theorem dX6_goOnWithNegation_86 : decode cX6_goOnWithNegation 86 = .ok (.getfield 39, 3) := by decide +kernel
theorem dX6_goOnWithNegation_89 : decode cX6_goOnWithNegation 89 = .ok (.iload_n 3, 1) := by decide +kernel
theorem dX6_goOnWithNegation_90 : decode cX6_goOnWithNegation 90 = .ok (.invokevirtual 165, 3) := by decide +kernel
theorem dX6_goOnWithNegation_93 : decode cX6_goOnWithNegation 93 = .ok (.ifCond .eq 7, 3) := by decide +kernel
theorem dX6_goOnWithNegation_96 : decode cX6_goOnWithNegation 96 = .ok (.iload_n 3, 1) := by decide +kernel
theorem dX6_goOnWithNegation_97 : decode cX6_goOnWithNegation 97 = .ok (.goto 14, 3) := by decide +kernel
theorem dX6_goOnWithNegation_100 : decode cX6_goOnWithNegation 100 = .ok (.aload_n 0, 1) := by decide +kernel
theorem dX6_goOnWithNegation_101 : decode cX6_goOnWithNegation 101 = .ok (.iload_n 3, 1) := by decide +kernel
theorem dX6_goOnWithNegation_102 : decode cX6_goOnWithNegation 102 = .ok (.aload_n 1, 1) := by decide +kernel
theorem dX6_goOnWithNegation_103 : decode cX6_goOnWithNegation 103 = .ok (.iconst 1, 1) := by decide +kernel
theorem dX6_goOnWithNegation_104 : decode cX6_goOnWithNegation 104 = .ok (.iaload, 1) := by decide +kernel
theorem dX6_goOnWithNegation_105 : decode cX6_goOnWithNegation 105 = .ok (.aload_n 1, 1) := by decide +kernel
theorem dX6_goOnWithNegation_106 : decode cX6_goOnWithNegation 106 = .ok (.iconst 2, 1) := by decide +kernel
theorem dX6_goOnWithNegation_107 : decode cX6_goOnWithNegation 107 = .ok (.iaload, 1) := by decide +kernel
theorem dX6_goOnWithNegation_108 : decode cX6_goOnWithNegation 108 = .ok (.invokevirtual 172, 3) := by decide +kernel
theorem dX6_goOnWithNegation_111 : decode cX6_goOnWithNegation 111 = .ok (.invokevirtual 96, 3) := by decide +kernel
theorem dX6_goOnWithNegation_114 : decode cX6_goOnWithNegation 114 = .ok (.return_, 1) := by decide +kernel

section
variable {p : Program} {l : Launch} {e : Env} {R : Room} {s : State} {m : MethodId} {args : Array Value} {below : List Frame} {meth : Method} {c : Code} {H : Heap} {locs : List Loc} {Qf : State → Prop}
variable {ls : Array Slot} {D : va_G} {ca : Nat → ClassId} {A : Nat → Prop} {ad : Nat → Nat → Nat} {u : iST}
def v_6_goOnWithNegation_111 (Q : iST → Prop) (y1 : Int) (u : iST) : Prop :=
  v_6_finish y1 (fun u => 
  Q u) u
set_option maxRecDepth 20000 in
set_option maxHeartbeats 4000000 in
theorem f_6_goOnWithNegation_111 (X : yX RX6 p m c cX6_goOnWithNegation 4 s args D ca ad A) (hRf : 3 ≤ R.frames) (hRl : 77 ≤ R.locals) {Q : iST → Prop} (hret : ∀ (u : iST) (H : Heap) (locs : List Loc) (ls : Array Slot) (pc : Nat), Q u → yW D ca A ad s H locs u → decode cX6_goOnWithNegation pc = .ok (.return_, 1) → W p l e R s m args below meth c H locs 0 0 Qf (F0 m pc ls [])) {y1 : Int} (ry1 : inR y1) (hw : yW D ca A ad s H locs u) (hl : lv_has ls 4 [(0, .ref (ad 0 5))]) (h : v_6_goOnWithNegation_111 Q y1 u) : W p l e R s m args below meth c H locs 0 0 Qf (F0 m 111 ls [.int (jI y1), .ref (ad 0 5)]) := by
  have hx := X.1.1
  have hb := X.1.2.1
  unfold v_6_goOnWithNegation_111 at h
  refine ycV (n := 1) (e_6_finish ry1 h) 6 5 (r := (RX6, TX6, 14)) rfl yG_6_96 yD_6_finish X hw rfl yGo_6 (Nat.le_trans (Nat.le_of_ble_eq_true rfl) hRf) (Nat.le_trans (Nat.le_of_ble_eq_true rfl) hRl) rfl hl.1 (Nat.le_of_ble_eq_true rfl) rfl dX6_goOnWithNegation_111 (fun u H locs h hw => ?_)
  exact hret _ _ _ _ _ h hw dX6_goOnWithNegation_114

def v_6_goOnWithNegation_83 (Q : iST → Prop) (x1 : Int) (y0 : Int) (u : iST) : Prop :=
  v_7_isConstant y0 (fun v5 u => 
  br (v5 = 0) (
    bd 1 17 (rd (u.2.1 51 (17 * x1 + 1)) (fun v6 => 
    bd 2 17 (rd (u.2.1 51 (17 * x1 + 2)) (fun v7 => 
    v_6_lookedUp y0 v6 v7 (fun v8 u => 
    v_6_goOnWithNegation_111 Q v8 u) u))))) (
    v_6_goOnWithNegation_111 Q y0 u)) u
set_option maxRecDepth 20000 in
set_option maxHeartbeats 4000000 in
theorem f_6_goOnWithNegation_83 (X : yX RX6 p m c cX6_goOnWithNegation 4 s args D ca ad A) (hRf : 3 ≤ R.frames) (hRl : 77 ≤ R.locals) {Q : iST → Prop} (hret : ∀ (u : iST) (H : Heap) (locs : List Loc) (ls : Array Slot) (pc : Nat), Q u → yW D ca A ad s H locs u → decode cX6_goOnWithNegation pc = .ok (.return_, 1) → W p l e R s m args below meth c H locs 0 0 Qf (F0 m pc ls [])) {x1 y0 : Int} (rx1 : (0 ≤ x1 ∧ x1 < 60)) (ry0 : inR y0) (hw : yW D ca A ad s H locs u) (hl : lv_has ls 4 [(0, .ref (ad 0 5)), (1, .ref (ad 7 x1.toNat))]) (h : v_6_goOnWithNegation_83 Q x1 y0 u) : W p l e R s m args below meth c H locs 0 0 Qf (F0 m 83 ls [.int (jI y0)]) := by
  have hx := X.1.1
  have hb := X.1.2.1
  unfold v_6_goOnWithNegation_83 at h
  refine lv_istore_n hx hb dX6_goOnWithNegation_83 rfl hl (by decide) rfl (fun ls hl => ?_)
  have hl : lv_has ls 4 [(3, .int (jI y0)), (0, .ref (ad 0 5)), (1, .ref (ad 7 x1.toNat))] := hl
  refine lv_aload_n hx hb dX6_goOnWithNegation_84 rfl (lv_at hl 1 rfl) ?_
  refine lv_aload_n hx hb dX6_goOnWithNegation_85 rfl (lv_at hl 1 rfl) ?_
  refine yg_6_39 X hw dX6_goOnWithNegation_86 ?_
  refine lv_iload_n hx hb dX6_goOnWithNegation_89 rfl (lv_at hl 0 rfl) ?_
  refine ycI (n := 1) (e_7_isConstant ry0 h) 7 6 (r := (RX7, TX7, 9)) rfl yG_6_165 yD_7_isConstant X hw rfl yGo_7 (Nat.le_trans (Nat.le_of_ble_eq_true rfl) hRf) (Nat.le_trans (Nat.le_of_ble_eq_true rfl) hRl) rfl hl.1 (Nat.le_of_ble_eq_true rfl) rfl dX6_goOnWithNegation_90 (fun v5 u H locs rv5 h hw => ?_)
  refine k_if_eq hx hb rv5 dX6_goOnWithNegation_93 (tgt := 100) rfl h (fun h => ?_) (fun h => ?_)
  · refine lv_aload_n hx hb dX6_goOnWithNegation_100 rfl (lv_at hl 1 rfl) ?_
    refine lv_iload_n hx hb dX6_goOnWithNegation_101 rfl (lv_at hl 0 rfl) ?_
    refine lv_aload_n hx hb dX6_goOnWithNegation_102 rfl (lv_at hl 2 rfl) ?_
    refine lv_iconst hx hb dX6_goOnWithNegation_103 (v := jI 1) rfl ?_
    refine yfl_frames X hw rx1 (by decide) dX6_goOnWithNegation_104 h (fun v6 rv6 h => ?_)
    refine lv_aload_n hx hb dX6_goOnWithNegation_105 rfl (lv_at hl 2 rfl) ?_
    refine lv_iconst hx hb dX6_goOnWithNegation_106 (v := jI 2) rfl ?_
    refine yfl_frames X hw rx1 (by decide) dX6_goOnWithNegation_107 h (fun v7 rv7 h => ?_)
    refine ycI (n := 3) (e_6_lookedUp ry0 rv6 rv7 h) 6 5 (r := (RX6, TX6, 14)) rfl yG_6_172 yD_6_lookedUp X hw rfl yGo_6 (Nat.le_trans (Nat.le_of_ble_eq_true rfl) hRf) (Nat.le_trans (Nat.le_of_ble_eq_true rfl) hRl) rfl hl.1 (Nat.le_of_ble_eq_true rfl) rfl dX6_goOnWithNegation_108 (fun v8 u H locs rv8 h hw => ?_)
    exact f_6_goOnWithNegation_111 X hRf hRl hret rv8 hw (lv_sub hl [1] rfl) h
  · refine lv_iload_n hx hb dX6_goOnWithNegation_96 rfl (lv_at hl 0 rfl) ?_
    refine lv_goto hx hb dX6_goOnWithNegation_97 (tgt := 111) rfl ?_
    exact f_6_goOnWithNegation_111 X hRf hRl hret ry0 hw (lv_sub hl [1] rfl) h

def v_6_goOnWithNegation_49 (Q : iST → Prop) (x1 : Int) (y0 : Int) (u : iST) : Prop :=
  br (y0 = 0) (
    rd (u.1 24) (fun v3 => 
    v_10_negated v3 (fun v4 u => 
    v_6_goOnWithNegation_83 Q x1 v4 u) u)) (
    rd (u.1 24) (fun v10 => 
    v_10_call 16 v10 (-1) (-1) (fun v11 u => 
    v_6_goOnWithNegation_83 Q x1 v11 u) u))
set_option maxRecDepth 20000 in
set_option maxHeartbeats 4000000 in
theorem f_6_goOnWithNegation_49 (X : yX RX6 p m c cX6_goOnWithNegation 4 s args D ca ad A) (hRf : 3 ≤ R.frames) (hRl : 77 ≤ R.locals) {Q : iST → Prop} (hret : ∀ (u : iST) (H : Heap) (locs : List Loc) (ls : Array Slot) (pc : Nat), Q u → yW D ca A ad s H locs u → decode cX6_goOnWithNegation pc = .ok (.return_, 1) → W p l e R s m args below meth c H locs 0 0 Qf (F0 m pc ls [])) {x1 y0 : Int} (rx1 : (0 ≤ x1 ∧ x1 < 60)) (ry0 : inR y0) (hw : yW D ca A ad s H locs u) (hl : lv_has ls 4 [(0, .ref (ad 0 5)), (1, .ref (ad 7 x1.toNat))]) (h : v_6_goOnWithNegation_49 Q x1 y0 u) : W p l e R s m args below meth c H locs 0 0 Qf (F0 m 49 ls [.int (jI y0)]) := by
  have hx := X.1.1
  have hb := X.1.2.1
  unfold v_6_goOnWithNegation_49 at h
  refine lv_istore_n hx hb dX6_goOnWithNegation_49 rfl hl (by decide) rfl (fun ls hl => ?_)
  have hl : lv_has ls 4 [(2, .int (jI y0)), (0, .ref (ad 0 5)), (1, .ref (ad 7 x1.toNat))] := hl
  refine lv_iload_n hx hb dX6_goOnWithNegation_50 rfl (lv_at hl 0 rfl) ?_
  refine k_if_eq hx hb ry0 dX6_goOnWithNegation_51 (tgt := 72) rfl h (fun h => ?_) (fun h => ?_)
  · refine lv_aload_n hx hb dX6_goOnWithNegation_72 rfl (lv_at hl 1 rfl) ?_
    refine yg_6_47 X hw dX6_goOnWithNegation_73 ?_
    refine lv_aload_n hx hb dX6_goOnWithNegation_76 rfl (lv_at hl 1 rfl) ?_
    refine yg_6_20 X hw dX6_goOnWithNegation_77 h (fun v3 rv3 h => ?_)
    refine ycI (n := 1) (e_10_negated rv3 h) 10 8 (r := (RX10, TX10, 16)) rfl yG_6_199 yD_10_negated X hw rfl yGo_10 (Nat.le_trans (Nat.le_of_ble_eq_true rfl) hRf) (Nat.le_trans (Nat.le_of_ble_eq_true rfl) hRl) rfl hl.1 (Nat.le_of_ble_eq_true rfl) rfl dX6_goOnWithNegation_80 (fun v4 u H locs rv4 h hw => ?_)
    exact f_6_goOnWithNegation_83 X hRf hRl hret rx1 rv4 hw (lv_sub hl [1, 2] rfl) h
  · refine lv_aload_n hx hb dX6_goOnWithNegation_54 rfl (lv_at hl 1 rfl) ?_
    refine yg_6_47 X hw dX6_goOnWithNegation_55 ?_
    refine lv_bipush hx hb dX6_goOnWithNegation_58 (v := jI 16) rfl ?_
    refine lv_aload_n hx hb dX6_goOnWithNegation_60 rfl (lv_at hl 1 rfl) ?_
    refine yg_6_20 X hw dX6_goOnWithNegation_61 h (fun v10 rv10 h => ?_)
    refine lv_iconst hx hb dX6_goOnWithNegation_64 (v := jI (-1)) rfl ?_
    refine lv_iconst hx hb dX6_goOnWithNegation_65 (v := jI (-1)) rfl ?_
    refine ycI (n := 4) (e_10_call (by decide) rv10 (by decide) (by decide) h) 10 8 (r := (RX10, TX10, 16)) rfl yG_6_179 yD_10_call X hw rfl yGo_10 (Nat.le_trans (Nat.le_of_ble_eq_true rfl) hRf) (Nat.le_trans (Nat.le_of_ble_eq_true rfl) hRl) rfl hl.1 (Nat.le_of_ble_eq_true rfl) rfl dX6_goOnWithNegation_66 (fun v11 u H locs rv11 h hw => ?_)
    refine lv_goto hx hb dX6_goOnWithNegation_69 (tgt := 83) rfl ?_
    exact f_6_goOnWithNegation_83 X hRf hRl hret rx1 rv11 hw (lv_sub hl [1, 2] rfl) h

def v_6_goOnWithNegation_48 (Q : iST → Prop) (x1 : Int) (u : iST) : Prop :=
  v_6_goOnWithNegation_49 Q x1 0 u
set_option maxRecDepth 20000 in
set_option maxHeartbeats 4000000 in
theorem f_6_goOnWithNegation_48 (X : yX RX6 p m c cX6_goOnWithNegation 4 s args D ca ad A) (hRf : 3 ≤ R.frames) (hRl : 77 ≤ R.locals) {Q : iST → Prop} (hret : ∀ (u : iST) (H : Heap) (locs : List Loc) (ls : Array Slot) (pc : Nat), Q u → yW D ca A ad s H locs u → decode cX6_goOnWithNegation pc = .ok (.return_, 1) → W p l e R s m args below meth c H locs 0 0 Qf (F0 m pc ls [])) {x1 : Int} (rx1 : (0 ≤ x1 ∧ x1 < 60)) (hw : yW D ca A ad s H locs u) (hl : lv_has ls 4 [(0, .ref (ad 0 5)), (1, .ref (ad 7 x1.toNat))]) (h : v_6_goOnWithNegation_48 Q x1 u) : W p l e R s m args below meth c H locs 0 0 Qf (F0 m 48 ls []) := by
  have hx := X.1.1
  have hb := X.1.2.1
  unfold v_6_goOnWithNegation_48 at h
  refine lv_iconst hx hb dX6_goOnWithNegation_48 (v := jI 0) rfl ?_
  exact f_6_goOnWithNegation_49 X hRf hRl hret rx1 (by decide) hw hl h

def v_6_goOnWithNegation (a0 : Int) (Q : iST → Prop) (u : iST) : Prop :=
  rd (u.1 24) (fun v1 => 
  v_7_isCallOf v1 16 (fun v2 u => 
  br (v2 = 0) (
    v_6_goOnWithNegation_48 Q a0 u) (
    bd 1 17 (rd (u.2.1 51 (17 * a0 + 1)) (fun v12 => 
    br (v12 ≠ 0) (
      v_6_goOnWithNegation_48 Q a0 u) (
      rd (u.1 24) (fun v13 => 
      v_7_item v13 1 (fun v14 u => 
      v_10_isBoolean v14 (fun v15 u => 
      br (v15 ≠ 0) (
        v_6_goOnWithNegation_48 Q a0 u) (
        v_6_goOnWithNegation_49 Q a0 1 u)) u) u)))))) u)
set_option maxRecDepth 20000 in
set_option maxHeartbeats 4000000 in
theorem f_6_goOnWithNegation_s (X : yX RX6 p m c cX6_goOnWithNegation 4 s args D ca ad A) (hRf : 3 ≤ R.frames) (hRl : 77 ≤ R.locals) {Q : iST → Prop} (hret : ∀ (u : iST) (H : Heap) (locs : List Loc) (ls : Array Slot) (pc : Nat), Q u → yW D ca A ad s H locs u → decode cX6_goOnWithNegation pc = .ok (.return_, 1) → W p l e R s m args below meth c H locs 0 0 Qf (F0 m pc ls [])) {a0 : Int} (ra0 : (0 ≤ a0 ∧ a0 < 60)) (hw : yW D ca A ad s H locs u) (hl : lv_has ls 4 [(0, .ref (ad 0 5)), (1, .ref (ad 7 a0.toNat))]) (h : v_6_goOnWithNegation a0 Q u) : W p l e R s m args below meth c H locs 0 0 Qf (F0 m 0 ls []) := by
  have hx := X.1.1
  have hb := X.1.2.1
  unfold v_6_goOnWithNegation at h
  refine lv_aload_n hx hb dX6_goOnWithNegation_0 rfl (lv_at hl 0 rfl) ?_
  refine yg_6_39 X hw dX6_goOnWithNegation_1 ?_
  refine lv_aload_n hx hb dX6_goOnWithNegation_4 rfl (lv_at hl 0 rfl) ?_
  refine yg_6_20 X hw dX6_goOnWithNegation_5 h (fun v1 rv1 h => ?_)
  refine lv_bipush hx hb dX6_goOnWithNegation_8 (v := jI 16) rfl ?_
  refine ycI (n := 2) (e_7_isCallOf rv1 (by decide) h) 7 6 (r := (RX7, TX7, 9)) rfl yG_6_175 yD_7_isCallOf X hw rfl yGo_7 (Nat.le_trans (Nat.le_of_ble_eq_true rfl) hRf) (Nat.le_trans (Nat.le_of_ble_eq_true rfl) hRl) rfl hl.1 (Nat.le_of_ble_eq_true rfl) rfl dX6_goOnWithNegation_10 (fun v2 u H locs rv2 h hw => ?_)
  refine k_if_eq hx hb rv2 dX6_goOnWithNegation_13 (tgt := 48) rfl h (fun h => ?_) (fun h => ?_)
  · exact f_6_goOnWithNegation_48 X hRf hRl hret ra0 hw hl h
  · refine lv_aload_n hx hb dX6_goOnWithNegation_16 rfl (lv_at hl 1 rfl) ?_
    refine lv_iconst hx hb dX6_goOnWithNegation_17 (v := jI 1) rfl ?_
    refine yfl_frames X hw ra0 (by decide) dX6_goOnWithNegation_18 h (fun v12 rv12 h => ?_)
    refine k_if_ne hx hb rv12 dX6_goOnWithNegation_19 (tgt := 48) rfl h (fun h => ?_) (fun h => ?_)
    · exact f_6_goOnWithNegation_48 X hRf hRl hret ra0 hw hl h
    · refine lv_aload_n hx hb dX6_goOnWithNegation_22 rfl (lv_at hl 0 rfl) ?_
      refine yg_6_47 X hw dX6_goOnWithNegation_23 ?_
      refine lv_aload_n hx hb dX6_goOnWithNegation_26 rfl (lv_at hl 0 rfl) ?_
      refine yg_6_39 X hw dX6_goOnWithNegation_27 ?_
      refine lv_aload_n hx hb dX6_goOnWithNegation_30 rfl (lv_at hl 0 rfl) ?_
      refine yg_6_20 X hw dX6_goOnWithNegation_31 h (fun v13 rv13 h => ?_)
      refine lv_iconst hx hb dX6_goOnWithNegation_34 (v := jI 1) rfl ?_
      refine ycI (n := 2) (e_7_item rv13 (by decide) h) 7 6 (r := (RX7, TX7, 9)) rfl yG_6_109 yD_7_item X hw rfl yGo_7 (Nat.le_trans (Nat.le_of_ble_eq_true rfl) hRf) (Nat.le_trans (Nat.le_of_ble_eq_true rfl) hRl) rfl hl.1 (Nat.le_of_ble_eq_true rfl) rfl dX6_goOnWithNegation_35 (fun v14 u H locs rv14 h hw => ?_)
      refine ycI (n := 1) (e_10_isBoolean rv14 h) 10 8 (r := (RX10, TX10, 16)) rfl yG_6_202 yD_10_isBoolean X hw rfl yGo_10 (Nat.le_trans (Nat.le_of_ble_eq_true rfl) hRf) (Nat.le_trans (Nat.le_of_ble_eq_true rfl) hRl) rfl hl.1 (Nat.le_of_ble_eq_true rfl) rfl dX6_goOnWithNegation_38 (fun v15 u H locs rv15 h hw => ?_)
      refine k_if_ne hx hb rv15 dX6_goOnWithNegation_41 (tgt := 48) rfl h (fun h => ?_) (fun h => ?_)
      · exact f_6_goOnWithNegation_48 X hRf hRl hret ra0 hw hl h
      · refine lv_iconst hx hb dX6_goOnWithNegation_44 (v := jI 1) rfl ?_
        refine lv_goto hx hb dX6_goOnWithNegation_45 (tgt := 49) rfl ?_
        exact f_6_goOnWithNegation_49 X hRf hRl hret ra0 (by decide) hw hl h

end
theorem e_6_goOnWithNegation {l : Launch} {a0 : Int} (ra0 : (0 ≤ a0 ∧ a0 < 60)) {Q : iST → Prop} {u : iST} (h : v_6_goOnWithNegation a0 Q u) : yMV l yX6_goOnWithNegation (.code yX6_goOnWithNegation cX6_goOnWithNegation 4 none :: wsN) { frames := 3, cells := 0, slots := 0, locals := 77 } (fun ad => [.ref (ad 0 5), .ref (ad 7 a0.toNat)]) Q u := yMV_of (own := RX6) rfl (by decide +kernel) (fun _ => Nat.le_of_ble_eq_true rfl) (fun X hRf hRl hret hw hl => f_6_goOnWithNegation_s X hRf hRl hret ra0 hw hl h)

/-! ProofHouse$Rewriter.gather -/
theorem dX6_gather_0 : decode cX6_gather 0 = .ok (.aload_n 1, 1) := by decide +kernel
theorem dX6_gather_1 : decode cX6_gather 1 = .ok (.bipush 10, 2) := by decide +kernel
theorem dX6_gather_3 : decode cX6_gather 3 = .ok (.iaload, 1) := by decide +kernel
theorem dX6_gather_4 : decode cX6_gather 4 = .ok (.ifCond .lt 25, 3) := by decide +kernel
theorem dX6_gather_7 : decode cX6_gather 7 = .ok (.aload_n 1, 1) := by decide +kernel
theorem dX6_gather_8 : decode cX6_gather 8 = .ok (.bipush 10, 2) := by decide +kernel
theorem dX6_gather_10 : decode cX6_gather 10 = .ok (.iaload, 1) := by decide +kernel
theorem dX6_gather_11 : decode cX6_gather 11 = .ok (.bipush 6, 2) := by decide +kernel
theorem dX6_gather_13 : decode cX6_gather 13 = .ok (.if_icmp .ge 16, 3) := by decide +kernel
theorem dX6_gather_16 : decode cX6_gather 16 = .ok (.aload_n 1, 1) := by decide +kernel
theorem dX6_gather_17 : decode cX6_gather 17 = .ok (.bipush 11, 2) := by decide +kernel
theorem dX6_gather_19 : decode cX6_gather 19 = .ok (.aload_n 1, 1) := by decide +kernel
theorem dX6_gather_20 : decode cX6_gather 20 = .ok (.bipush 10, 2) := by decide +kernel
theorem dX6_gather_22 : decode cX6_gather 22 = .ok (.iaload, 1) := by decide +kernel
theorem dX6_gather_23 : decode cX6_gather 23 = .ok (.iadd, 1) := by decide +kernel
theorem dX6_gather_24 : decode cX6_gather 24 = .ok (.aload_n 0, 1) := by decide +kernel
theorem dX6_gather_25 : decode cX6_gather 25 = .ok (.getfield 20, 3) := by decide +kernel
theorem dX6_gather_28 : decode cX6_gather 28 = .ok (.iastore, 1) := by decide +kernel
theorem dX6_gather_29 : decode cX6_gather 29 = .ok (.aload_n 1, 1) := by decide +kernel
theorem dX6_gather_30 : decode cX6_gather 30 = .ok (.bipush 10, 2) := by decide +kernel
theorem dX6_gather_32 : decode cX6_gather 32 = .ok (.dup2, 1) := by decide +kernel
theorem dX6_gather_33 : decode cX6_gather 33 = .ok (.iaload, 1) := by decide +kernel
theorem dX6_gather_34 : decode cX6_gather 34 = .ok (.iconst 1, 1) := by decide +kernel
theorem dX6_gather_35 : decode cX6_gather 35 = .ok (.iadd, 1) := by decide +kernel
theorem dX6_gather_36 : decode cX6_gather 36 = .ok (.iastore, 1) := by decide +kernel
theorem dX6_gather_37 : decode cX6_gather 37 = .ok (.aload_n 1, 1) := by decide +kernel
theorem dX6_gather_38 : decode cX6_gather 38 = .ok (.bipush 6, 2) := by decide +kernel
theorem dX6_gather_40 : decode cX6_gather 40 = .ok (.iaload, 1) := by decide +kernel
theorem dX6_gather_41 : decode cX6_gather 41 = .ok (.istore_n 2, 1) := by decide +kernel
theorem dX6_gather_42 : decode cX6_gather 42 = .ok (.aload_n 0, 1) := by decide +kernel
theorem dX6_gather_43 : decode cX6_gather 43 = .ok (.getfield 39, 3) := by decide +kernel
theorem dX6_gather_46 : decode cX6_gather 46 = .ok (.iload_n 2, 1) := by decide +kernel
theorem dX6_gather_47 : decode cX6_gather 47 = .ok (.invokevirtual 205, 3) := by decide +kernel
theorem dX6_gather_50 : decode cX6_gather 50 = .ok (.ifCond .eq 32, 3) := by decide +kernel
theorem dX6_gather_53 : decode cX6_gather 53 = .ok (.aload_n 1, 1) := by decide +kernel
theorem dX6_gather_54 : decode cX6_gather 54 = .ok (.bipush 6, 2) := by decide +kernel
theorem dX6_gather_56 : decode cX6_gather 56 = .ok (.aload_n 0, 1) := by decide +kernel
theorem dX6_gather_57 : decode cX6_gather 57 = .ok (.getfield 39, 3) := by decide +kernel
theorem dX6_gather_60 : decode cX6_gather 60 = .ok (.iload_n 2, 1) := by decide +kernel
theorem dX6_gather_61 : decode cX6_gather 61 = .ok (.invokevirtual 188, 3) := by decide +kernel
theorem dX6_gather_64 : decode cX6_gather 64 = .ok (.iastore, 1) := by decide +kernel
theorem dX6_gather_65 : decode cX6_gather 65 = .ok (.aload_n 0, 1) := by decide +kernel
theorem dX6_gather_66 : decode cX6_gather 66 = .ok (.aload_n 0, 1) := by decide +kernel
theorem dX6_gather_67 : decode cX6_gather 67 = .ok (.getfield 39, 3) := by decide +kernel
theorem dX6_gather_70 : decode cX6_gather 70 = .ok (.iload_n 2, 1) := by decide +kernel
theorem dX6_gather_71 : decode cX6_gather 71 = .ok (.invokevirtual 120, 3) := by decide +kernel
theorem dX6_gather_74 : decode cX6_gather 74 = .ok (.iconst 0, 1) := by decide +kernel
theorem dX6_gather_75 : decode cX6_gather 75 = .ok (.aload_n 1, 1) := by decide +kernel
theorem dX6_gather_76 : decode cX6_gather 76 = .ok (.iconst 2, 1) := by decide +kernel
theorem dX6_gather_77 : decode cX6_gather 77 = .ok (.iaload, 1) := by decide +kernel
theorem dX6_gather_78 : decode cX6_gather 78 = .ok (.invokevirtual 72, 3) := by decide +kernel
theorem dX6_gather_81 : decode cX6_gather 81 = .ok (.return_, 1) := by decide +kernel
theorem dX6_gather_82 : decode cX6_gather 82 = .ok (.iconst 0, 1) := by decide +kernel
theorem dX6_gather_83 : decode cX6_gather 83 = .ok (.istore_n 3, 1) := by decide +kernel
theorem dX6_gather_84 : decode cX6_gather 84 = .ok (.aload_n 1, 1) := by decide +kernel
theorem dX6_gather_85 : decode cX6_gather 85 = .ok (.bipush 10, 2) := by decide +kernel
theorem dX6_gather_87 : decode cX6_gather 87 = .ok (.iaload, 1) := by decide +kernel
theorem dX6_gather_88 : decode cX6_gather 88 = .ok (.bipush 6, 2) := by decide +kernel
theorem dX6_gather_90 : decode cX6_gather 90 = .ok (.invokestatic 208, 3) := by decide +kernel
theorem dX6_gather_93 : decode cX6_gather 93 = .ok (.iconst 1, 1) := by decide +kernel
theorem dX6_gather_94 : decode cX6_gather 94 = .ok (.isub, 1) := by decide +kernel
theorem dX6_gather_95 : decode cX6_gather 95 = .ok (.istore 4, 2) := by decide +kernel
theorem dX6_gather_97 : decode cX6_gather 97 = .ok (.iload 4, 2) := by decide +kernel
theorem dX6_gather_99 : decode cX6_gather 99 = .ok (.ifCond .lt 28, 3) := by decide +kernel
theorem dX6_gather_102 : decode cX6_gather 102 = .ok (.aload_n 0, 1) := by decide +kernel
theorem dX6_gather_103 : decode cX6_gather 103 = .ok (.getfield 39, 3) := by decide +kernel
theorem dX6_gather_106 : decode cX6_gather 106 = .ok (.aload_n 1, 1) := by decide +kernel
theorem dX6_gather_107 : decode cX6_gather 107 = .ok (.bipush 11, 2) := by decide +kernel
theorem dX6_gather_109 : decode cX6_gather 109 = .ok (.iload 4, 2) := by decide +kernel
theorem dX6_gather_111 : decode cX6_gather 111 = .ok (.iadd, 1) := by decide +kernel
theorem dX6_gather_112 : decode cX6_gather 112 = .ok (.iaload, 1) := by decide +kernel
theorem dX6_gather_113 : decode cX6_gather 113 = .ok (.iload_n 3, 1) := by decide +kernel
theorem dX6_gather_114 : decode cX6_gather 114 = .ok (.invokestatic 191, 3) := by decide +kernel
theorem dX6_gather_117 : decode cX6_gather 117 = .ok (.invokevirtual 195, 3) := by decide +kernel
theorem dX6_gather_120 : decode cX6_gather 120 = .ok (.istore_n 3, 1) := by decide +kernel
theorem dX6_gather_121 : decode cX6_gather 121 = .ok (.iinc 4 (-1), 3) := by decide +kernel
theorem dX6_gather_124 : decode cX6_gather 124 = .ok (.goto (-27), 3) := by decide +kernel
theorem dX6_gather_127 : decode cX6_gather 127 = .ok (.aload_n 1, 1) := by decide +kernel
theorem dX6_gather_128 : decode cX6_gather 128 = .ok (.iconst 5, 1) := by decide +kernel
theorem dX6_gather_129 : decode cX6_gather 129 = .ok (.aload_n 0, 1) := by decide +kernel
theorem dX6_gather_130 : decode cX6_gather 130 = .ok (.getfield 39, 3) := by decide +kernel
theorem dX6_gather_133 : decode cX6_gather 133 = .ok (.aload_n 0, 1) := by decide +kernel
theorem dX6_gather_134 : decode cX6_gather 134 = .ok (.getfield 39, 3) := by decide +kernel
theorem dX6_gather_137 : decode cX6_gather 137 = .ok (.aload_n 1, 1) := by decide +kernel
theorem dX6_gather_138 : decode cX6_gather 138 = .ok (.iconst 0, 1) := by decide +kernel
theorem dX6_gather_139 : decode cX6_gather 139 = .ok (.iaload, 1) := by decide +kernel
theorem dX6_gather_140 : decode cX6_gather 140 = .ok (.invokevirtual 120, 3) := by decide +kernel
theorem dX6_gather_143 : decode cX6_gather 143 = .ok (.iload_n 3, 1) := by decide +kernel
theorem dX6_gather_144 : decode cX6_gather 144 = .ok (.invokestatic 191, 3) := by decide +kernel
theorem dX6_gather_147 : decode cX6_gather 147 = .ok (.invokevirtual 195, 3) := by decide +kernel
theorem dX6_gather_150 : decode cX6_gather 150 = .ok (.iastore, 1) := by decide +kernel
theorem dX6_gather_151 : decode cX6_gather 151 = .ok (.aload_n 1, 1) := by decide +kernel
theorem dX6_gather_152 : decode cX6_gather 152 = .ok (.iconst 3, 1) := by decide +kernel
theorem dX6_gather_153 : decode cX6_gather 153 = .ok (.bipush 7, 2) := by decide +kernel
theorem dX6_gather_155 : decode cX6_gather 155 = .ok (.iastore, 1) := by decide +kernel
theorem dX6_gather_156 : decode cX6_gather 156 = .ok (.aload_n 0, 1) := by decide +kernel
theorem dX6_gather_157 : decode cX6_gather 157 = .ok (.getfield 39, 3) := by decide +kernel
theorem dX6_gather_160 : decode cX6_gather 160 = .ok (.aload_n 1, 1) := by decide +kernel
theorem dX6_gather_161 : decode cX6_gather 161 = .ok (.iconst 5, 1) := by decide +kernel
theorem dX6_gather_162 : decode cX6_gather 162 = .ok (.iaload, 1) := by decide +kernel
theorem dX6_gather_163 : decode cX6_gather 163 = .ok (.invokevirtual 213, 3) := by decide +kernel
theorem dX6_gather_166 : decode cX6_gather 166 = .ok (.bipush 120, 2) := by decide +kernel
theorem dX6_gather_168 : decode cX6_gather 168 = .ok (.if_icmp .le 11, 3) := by decide +kernel
theorem dX6_gather_171 : decode cX6_gather 171 = .ok (.aload_n 0, 1) := by decide +kernel
theorem dX6_gather_172 : decode cX6_gather 172 = .ok (.getfield 39, 3) := by decide +kernel
theorem dX6_gather_175 : decode cX6_gather 175 = .ok (.iconst 4, 1) := by decide +kernel
theorem dX6_gather_176 : decode cX6_gather 176 = .ok (.invokevirtual 152, 3) := by decide +kernel
theorem dX6_gather_179 : decode cX6_gather 179 = .ok (.return_, 1) := by decide +kernel

section
variable {p : Program} {l : Launch} {e : Env} {R : Room} {s : State} {m : MethodId} {args : Array Value} {below : List Frame} {meth : Method} {c : Code} {H : Heap} {locs : List Loc} {Qf : State → Prop}
variable {ls : Array Slot} {D : va_G} {ca : Nat → ClassId} {A : Nat → Prop} {ad : Nat → Nat → Nat} {u : iST}
def v_6_gather_97b (R97 : Int → Int → Int → iST → Prop) (Q : iST → Prop) (x1 : Int) (x3 : Int) (x4 : Int) (u : iST) : Prop :=
  br (x4 < 0) (
    bd 0 17 (rd (u.2.1 51 (17 * x1 + 0)) (fun v9 => 
    v_7_left v9 (fun v10 u => 
    v_11_pairCell v10 x3 (fun v11 u => 
    v_7_made v11 (fun v12 u => 
    bd 5 17 (sw (iA u 51 (17 * x1 + 5) v12) (fun u => 
    bd 3 17 (sw (iA u 51 (17 * x1 + 3) 7) (fun u => 
    bd 5 17 (rd (u.2.1 51 (17 * x1 + 5)) (fun v13 => 
    v_7_sizeOf v13 (fun v14 u => 
    br (v14 ≤ 120) (
      Q u) (
      v_7_blame 4 (fun u => 
      Q u) u)) u))))))) u) u) u))) (
    ov (11 + x4) (
    bd (11 + x4) 17 (rd (u.2.1 51 (17 * x1 + (11 + x4))) (fun v17 => 
    v_11_pairCell v17 x3 (fun v18 u => 
    v_7_made v18 (fun v19 u => 
    ov (x4 + (-1)) (
    R97 x1 v19 (x4 + (-1)) u)) u) u))))
def v_6_gather_97 (Q : iST → Prop) (x1 : Int) (x3 : Int) (x4 : Int) (u : iST) : Prop := ∀ R97 : Int → Int → Int → iST → Prop, (∀ (x1 : Int) (x3 : Int) (x4 : Int) (u : iST), v_6_gather_97b R97 Q x1 x3 x4 u → R97 x1 x3 x4 u) → R97 x1 x3 x4 u
set_option maxRecDepth 20000 in
set_option maxHeartbeats 4000000 in
theorem f_6_gather_97 (X : yX RX6 p m c cX6_gather 5 s args D ca ad A) (hRf : 2 ≤ R.frames) (hRl : 84 ≤ R.locals) {Q : iST → Prop} (hret : ∀ (u : iST) (H : Heap) (locs : List Loc) (ls : Array Slot) (pc : Nat), Q u → yW D ca A ad s H locs u → decode cX6_gather pc = .ok (.return_, 1) → W p l e R s m args below meth c H locs 0 0 Qf (F0 m pc ls [])) {x1 x3 x4 : Int} (rx1 : (0 ≤ x1 ∧ x1 < 60)) (rx3 : inR x3) (rx4 : inR x4) (hw : yW D ca A ad s H locs u) (hl : lv_has ls 5 [(0, .ref (ad 0 5)), (1, .ref (ad 7 x1.toNat)), (3, .int (jI x3)), (4, .int (jI x4))]) (h : v_6_gather_97 Q x1 x3 x4 u) : W p l e R s m args below meth c H locs 0 0 Qf (F0 m 97 ls []) := by
  refine h (fun x1 x3 x4 u => ∀ (H : Heap) (locs : List Loc) (ls : Array Slot), (0 ≤ x1 ∧ x1 < 60) → inR x3 → inR x4 → yW D ca A ad s H locs u → lv_has ls 5 [(0, .ref (ad 0 5)), (1, .ref (ad 7 x1.toNat)), (3, .int (jI x3)), (4, .int (jI x4))] → W p l e R s m args below meth c H locs 0 0 Qf (F0 m 97 ls [])) ?_ H locs ls rx1 rx3 rx4 hw hl
  clear h hl hw rx1 rx3 rx4
  intro x1 x3 x4 u h H locs ls rx1 rx3 rx4 hw hl
  have hR97 : ∀ (x1 : Int) (x3 : Int) (x4 : Int) (u : iST) (H : Heap) (locs : List Loc) (ls : Array Slot), (0 ≤ x1 ∧ x1 < 60) → inR x3 → inR x4 → yW D ca A ad s H locs u → lv_has ls 5 [(0, .ref (ad 0 5)), (1, .ref (ad 7 x1.toNat)), (3, .int (jI x3)), (4, .int (jI x4))] → (fun (x1 : Int) (x3 : Int) (x4 : Int) u => ∀ (H : Heap) (locs : List Loc) (ls : Array Slot), (0 ≤ x1 ∧ x1 < 60) → inR x3 → inR x4 → yW D ca A ad s H locs u → lv_has ls 5 [(0, .ref (ad 0 5)), (1, .ref (ad 7 x1.toNat)), (3, .int (jI x3)), (4, .int (jI x4))] → W p l e R s m args below meth c H locs 0 0 Qf (F0 m 97 ls [])) x1 x3 x4 u → W p l e R s m args below meth c H locs 0 0 Qf (F0 m 97 ls []) := fun x1 x3 x4 u H locs ls rx1 rx3 rx4 hw hl h => h H locs ls rx1 rx3 rx4 hw hl
  have hx := X.1.1
  have hb := X.1.2.1
  unfold v_6_gather_97b at h
  refine lv_iload hx hb dX6_gather_97 (lv_at hl 3 rfl) ?_
  refine k_if_lt hx hb rx4 dX6_gather_99 (tgt := 127) rfl h (fun h => ?_) (fun h => ?_)
  · refine lv_aload_n hx hb dX6_gather_127 rfl (lv_at hl 1 rfl) ?_
    refine lv_iconst hx hb dX6_gather_128 (v := jI 5) rfl ?_
    refine lv_aload_n hx hb dX6_gather_129 rfl (lv_at hl 0 rfl) ?_
    refine yg_6_39 X hw dX6_gather_130 ?_
    refine lv_aload_n hx hb dX6_gather_133 rfl (lv_at hl 0 rfl) ?_
    refine yg_6_39 X hw dX6_gather_134 ?_
    refine lv_aload_n hx hb dX6_gather_137 rfl (lv_at hl 1 rfl) ?_
    refine lv_iconst hx hb dX6_gather_138 (v := jI 0) rfl ?_
    refine yfl_frames X hw rx1 (by decide) dX6_gather_139 h (fun v9 rv9 h => ?_)
    refine ycI (n := 1) (e_7_left rv9 h) 7 6 (r := (RX7, TX7, 9)) rfl yG_6_120 yD_7_left X hw rfl yGo_7 (Nat.le_trans (Nat.le_of_ble_eq_true rfl) hRf) (Nat.le_trans (Nat.le_of_ble_eq_true rfl) hRl) rfl hl.1 (Nat.le_of_ble_eq_true rfl) rfl dX6_gather_140 (fun v10 u H locs rv10 h hw => ?_)
    refine lv_iload_n hx hb dX6_gather_143 rfl (lv_at hl 2 rfl) ?_
    refine ycSN (n := 2) (e_11_pairCell rv10 rx3 h) (host := "ProofHouse") rfl goodPair yD_11_pairCell.2 X hw (yNm_6_191 X.2.2.1) (ysI_in (List.mem_of_getElem? (i := 11) rfl)) statPair (Nat.le_trans (Nat.le_of_ble_eq_true rfl) hRf) (Nat.le_trans (Nat.le_of_ble_eq_true rfl) hRl) rfl hl.1 (Nat.le_of_ble_eq_true rfl) rfl dX6_gather_144 (fun v11 u H locs rv11 h hw => ?_)
    refine ycI (n := 1) (e_7_made rv11 h) 7 6 (r := (RX7, TX7, 9)) rfl yG_6_195 yD_7_made X hw rfl yGo_7 (Nat.le_trans (Nat.le_of_ble_eq_true rfl) hRf) (Nat.le_trans (Nat.le_of_ble_eq_true rfl) hRl) rfl hl.1 (Nat.le_of_ble_eq_true rfl) rfl dX6_gather_147 (fun v12 u H locs rv12 h hw => ?_)
    refine yft_frames X hw rx1 (by decide) rv12 dX6_gather_150 h (fun H locs u hw h => ?_)
    refine lv_aload_n hx hb dX6_gather_151 rfl (lv_at hl 1 rfl) ?_
    refine lv_iconst hx hb dX6_gather_152 (v := jI 3) rfl ?_
    refine lv_bipush hx hb dX6_gather_153 (v := jI 7) rfl ?_
    refine yft_frames X hw rx1 (by decide) (by decide) dX6_gather_155 h (fun H locs u hw h => ?_)
    refine lv_aload_n hx hb dX6_gather_156 rfl (lv_at hl 0 rfl) ?_
    refine yg_6_39 X hw dX6_gather_157 ?_
    refine lv_aload_n hx hb dX6_gather_160 rfl (lv_at hl 1 rfl) ?_
    refine lv_iconst hx hb dX6_gather_161 (v := jI 5) rfl ?_
    refine yfl_frames X hw rx1 (by decide) dX6_gather_162 h (fun v13 rv13 h => ?_)
    refine ycI (n := 1) (e_7_sizeOf rv13 h) 7 6 (r := (RX7, TX7, 9)) rfl yG_6_213 yD_7_sizeOf X hw rfl yGo_7 (Nat.le_trans (Nat.le_of_ble_eq_true rfl) hRf) (Nat.le_trans (Nat.le_of_ble_eq_true rfl) hRl) rfl hl.1 (Nat.le_of_ble_eq_true rfl) rfl dX6_gather_163 (fun v14 u H locs rv14 h hw => ?_)
    refine lv_bipush hx hb dX6_gather_166 (v := jI 120) rfl ?_
    refine k_icmp_le hx hb rv14 (by decide) dX6_gather_168 (tgt := 179) rfl h (fun h => ?_) (fun h => ?_)
    · exact hret _ _ _ _ _ h hw dX6_gather_179
    · refine lv_aload_n hx hb dX6_gather_171 rfl (lv_at hl 0 rfl) ?_
      refine yg_6_39 X hw dX6_gather_172 ?_
      refine lv_iconst hx hb dX6_gather_175 (v := jI 4) rfl ?_
      refine ycV (n := 1) (e_7_blame (by decide) h) 7 6 (r := (RX7, TX7, 9)) rfl yG_6_152 yD_7_blame X hw rfl yGo_7 (Nat.le_trans (Nat.le_of_ble_eq_true rfl) hRf) (Nat.le_trans (Nat.le_of_ble_eq_true rfl) hRl) rfl hl.1 (Nat.le_of_ble_eq_true rfl) rfl dX6_gather_176 (fun u H locs h hw => ?_)
      exact hret _ _ _ _ _ h hw dX6_gather_179
  · refine lv_aload_n hx hb dX6_gather_102 rfl (lv_at hl 0 rfl) ?_
    refine yg_6_39 X hw dX6_gather_103 ?_
    refine lv_aload_n hx hb dX6_gather_106 rfl (lv_at hl 1 rfl) ?_
    refine lv_bipush hx hb dX6_gather_107 (v := jI 11) rfl ?_
    refine lv_iload hx hb dX6_gather_109 (lv_at hl 3 rfl) ?_
    refine k_iadd hx hb dX6_gather_111 h (fun r16 h => ?_)
    refine yfl_frames X hw rx1 r16 dX6_gather_112 h (fun v17 rv17 h => ?_)
    refine lv_iload_n hx hb dX6_gather_113 rfl (lv_at hl 2 rfl) ?_
    refine ycSN (n := 2) (e_11_pairCell rv17 rx3 h) (host := "ProofHouse") rfl goodPair yD_11_pairCell.2 X hw (yNm_6_191 X.2.2.1) (ysI_in (List.mem_of_getElem? (i := 11) rfl)) statPair (Nat.le_trans (Nat.le_of_ble_eq_true rfl) hRf) (Nat.le_trans (Nat.le_of_ble_eq_true rfl) hRl) rfl hl.1 (Nat.le_of_ble_eq_true rfl) rfl dX6_gather_114 (fun v18 u H locs rv18 h hw => ?_)
    refine ycI (n := 1) (e_7_made rv18 h) 7 6 (r := (RX7, TX7, 9)) rfl yG_6_195 yD_7_made X hw rfl yGo_7 (Nat.le_trans (Nat.le_of_ble_eq_true rfl) hRf) (Nat.le_trans (Nat.le_of_ble_eq_true rfl) hRl) rfl hl.1 (Nat.le_of_ble_eq_true rfl) rfl dX6_gather_117 (fun v19 u H locs rv19 h hw => ?_)
    refine lv_istore_n hx hb dX6_gather_120 rfl hl (by decide) rfl (fun ls hl => ?_)
    have hl : lv_has ls 5 [(3, .int (jI v19)), (0, .ref (ad 0 5)), (1, .ref (ad 7 x1.toNat)), (4, .int (jI x4))] := hl
    refine k_iinc (k := 3) hx hb dX6_gather_121 hl rfl (by decide) rfl h (fun ls r20 h hl => ?_)
    have hl : lv_has ls 5 [(4, .int (jI (x4 + (-1)))), (3, .int (jI v19)), (0, .ref (ad 0 5)), (1, .ref (ad 7 x1.toNat))] := hl
    refine lv_goto hx hb dX6_gather_124 (tgt := 97) rfl ?_
    exact hR97 _ _ _ _ H locs ls rx1 rv19 r20 hw (lv_sub hl [2, 3, 1, 0] rfl) h

def v_6_gather_29 (Q : iST → Prop) (x1 : Int) (u : iST) : Prop :=
  bd 10 17 (rd (u.2.1 51 (17 * x1 + 10)) (fun v2 => 
  rd (wadd v2 1) (fun v3 => 
  bd 10 17 (sw (iA u 51 (17 * x1 + 10) v3) (fun u => 
  bd 6 17 (rd (u.2.1 51 (17 * x1 + 6)) (fun v4 => 
  v_7_isPair v4 (fun v5 u => 
  br (v5 = 0) (
    bd 10 17 (rd (u.2.1 51 (17 * x1 + 10)) (fun v6 => 
    rd (if 6 < v6 then 6 else v6) (fun v7 => 
    ov (v7 - 1) (
    v_6_gather_97 Q x1 0 (v7 - 1) u))))) (
    v_7_right v4 (fun v21 u => 
    bd 6 17 (sw (iA u 51 (17 * x1 + 6) v21) (fun u => 
    v_7_left v4 (fun v22 u => 
    bd 2 17 (rd (u.2.1 51 (17 * x1 + 2)) (fun v23 => 
    v_6_ask v22 0 v23 (fun u => 
    Q u) u))) u))) u)) u)))))))
set_option maxRecDepth 20000 in
set_option maxHeartbeats 4000000 in
theorem f_6_gather_29 (X : yX RX6 p m c cX6_gather 5 s args D ca ad A) (hRf : 2 ≤ R.frames) (hRl : 84 ≤ R.locals) {Q : iST → Prop} (hret : ∀ (u : iST) (H : Heap) (locs : List Loc) (ls : Array Slot) (pc : Nat), Q u → yW D ca A ad s H locs u → decode cX6_gather pc = .ok (.return_, 1) → W p l e R s m args below meth c H locs 0 0 Qf (F0 m pc ls [])) {x1 : Int} (rx1 : (0 ≤ x1 ∧ x1 < 60)) (hw : yW D ca A ad s H locs u) (hl : lv_has ls 5 [(0, .ref (ad 0 5)), (1, .ref (ad 7 x1.toNat))]) (h : v_6_gather_29 Q x1 u) : W p l e R s m args below meth c H locs 0 0 Qf (F0 m 29 ls []) := by
  have hx := X.1.1
  have hb := X.1.2.1
  unfold v_6_gather_29 at h
  refine lv_aload_n hx hb dX6_gather_29 rfl (lv_at hl 1 rfl) ?_
  refine lv_bipush hx hb dX6_gather_30 (v := jI 10) rfl ?_
  refine lv_dup2_11 hx hb dX6_gather_32 rfl rfl ?_
  refine yfl_frames X hw rx1 (by decide) dX6_gather_33 h (fun v2 rv2 h => ?_)
  refine lv_iconst hx hb dX6_gather_34 (v := jI 1) rfl ?_
  refine k_wadd hx hb dX6_gather_35 h (fun v3 rv3 h => ?_)
  refine yft_frames X hw rx1 (by decide) rv3 dX6_gather_36 h (fun H locs u hw h => ?_)
  refine lv_aload_n hx hb dX6_gather_37 rfl (lv_at hl 1 rfl) ?_
  refine lv_bipush hx hb dX6_gather_38 (v := jI 6) rfl ?_
  refine yfl_frames X hw rx1 (by decide) dX6_gather_40 h (fun v4 rv4 h => ?_)
  refine lv_istore_n hx hb dX6_gather_41 rfl hl (by decide) rfl (fun ls hl => ?_)
  have hl : lv_has ls 5 [(2, .int (jI v4)), (0, .ref (ad 0 5)), (1, .ref (ad 7 x1.toNat))] := hl
  refine lv_aload_n hx hb dX6_gather_42 rfl (lv_at hl 1 rfl) ?_
  refine yg_6_39 X hw dX6_gather_43 ?_
  refine lv_iload_n hx hb dX6_gather_46 rfl (lv_at hl 0 rfl) ?_
  refine ycI (n := 1) (e_7_isPair rv4 h) 7 6 (r := (RX7, TX7, 9)) rfl yG_6_205 yD_7_isPair X hw rfl yGo_7 (Nat.le_trans (Nat.le_of_ble_eq_true rfl) hRf) (Nat.le_trans (Nat.le_of_ble_eq_true rfl) hRl) rfl hl.1 (Nat.le_of_ble_eq_true rfl) rfl dX6_gather_47 (fun v5 u H locs rv5 h hw => ?_)
  refine k_if_eq hx hb rv5 dX6_gather_50 (tgt := 82) rfl h (fun h => ?_) (fun h => ?_)
  · refine lv_iconst hx hb dX6_gather_82 (v := jI 0) rfl ?_
    refine lv_istore_n hx hb dX6_gather_83 rfl hl (by decide) rfl (fun ls hl => ?_)
    have hl : lv_has ls 5 [(3, .int (jI 0)), (2, .int (jI v4)), (0, .ref (ad 0 5)), (1, .ref (ad 7 x1.toNat))] := hl
    refine lv_aload_n hx hb dX6_gather_84 rfl (lv_at hl 3 rfl) ?_
    refine lv_bipush hx hb dX6_gather_85 (v := jI 10) rfl ?_
    refine yfl_frames X hw rx1 (by decide) dX6_gather_87 h (fun v6 rv6 h => ?_)
    refine lv_bipush hx hb dX6_gather_88 (v := jI 6) rfl ?_
    refine yMmin 208 rv6 (by decide) yJ_3 X hl.1 (Nat.le_trans (Nat.le_of_ble_eq_true rfl) hRf) (Nat.le_trans (Nat.le_of_ble_eq_true rfl) hRl) dX6_gather_90 h (fun v7 rv7 h => ?_)
    refine lv_iconst hx hb dX6_gather_93 (v := jI 1) rfl ?_
    refine k_isub hx hb dX6_gather_94 h (fun r8 h => ?_)
    refine lv_istore hx hb dX6_gather_95 hl (by decide) rfl (fun ls hl => ?_)
    have hl : lv_has ls 5 [(4, .int (jI (v7 - 1))), (3, .int (jI 0)), (2, .int (jI v4)), (0, .ref (ad 0 5)), (1, .ref (ad 7 x1.toNat))] := hl
    exact f_6_gather_97 X hRf hRl hret rx1 (by decide) r8 hw (lv_sub hl [3, 4, 1, 0] rfl) h
  · refine lv_aload_n hx hb dX6_gather_53 rfl (lv_at hl 2 rfl) ?_
    refine lv_bipush hx hb dX6_gather_54 (v := jI 6) rfl ?_
    refine lv_aload_n hx hb dX6_gather_56 rfl (lv_at hl 1 rfl) ?_
    refine yg_6_39 X hw dX6_gather_57 ?_
    refine lv_iload_n hx hb dX6_gather_60 rfl (lv_at hl 0 rfl) ?_
    refine ycI (n := 1) (e_7_right rv4 h) 7 6 (r := (RX7, TX7, 9)) rfl yG_6_188 yD_7_right X hw rfl yGo_7 (Nat.le_trans (Nat.le_of_ble_eq_true rfl) hRf) (Nat.le_trans (Nat.le_of_ble_eq_true rfl) hRl) rfl hl.1 (Nat.le_of_ble_eq_true rfl) rfl dX6_gather_61 (fun v21 u H locs rv21 h hw => ?_)
    refine yft_frames X hw rx1 (by decide) rv21 dX6_gather_64 h (fun H locs u hw h => ?_)
    refine lv_aload_n hx hb dX6_gather_65 rfl (lv_at hl 1 rfl) ?_
    refine lv_aload_n hx hb dX6_gather_66 rfl (lv_at hl 1 rfl) ?_
    refine yg_6_39 X hw dX6_gather_67 ?_
    refine lv_iload_n hx hb dX6_gather_70 rfl (lv_at hl 0 rfl) ?_
    refine ycI (n := 1) (e_7_left rv4 h) 7 6 (r := (RX7, TX7, 9)) rfl yG_6_120 yD_7_left X hw rfl yGo_7 (Nat.le_trans (Nat.le_of_ble_eq_true rfl) hRf) (Nat.le_trans (Nat.le_of_ble_eq_true rfl) hRl) rfl hl.1 (Nat.le_of_ble_eq_true rfl) rfl dX6_gather_71 (fun v22 u H locs rv22 h hw => ?_)
    refine lv_iconst hx hb dX6_gather_74 (v := jI 0) rfl ?_
    refine lv_aload_n hx hb dX6_gather_75 rfl (lv_at hl 2 rfl) ?_
    refine lv_iconst hx hb dX6_gather_76 (v := jI 2) rfl ?_
    refine yfl_frames X hw rx1 (by decide) dX6_gather_77 h (fun v23 rv23 h => ?_)
    refine ycV (n := 3) (e_6_ask rv22 (by decide) rv23 h) 6 5 (r := (RX6, TX6, 14)) rfl yG_6_72 yD_6_ask X hw rfl yGo_6 (Nat.le_trans (Nat.le_of_ble_eq_true rfl) hRf) (Nat.le_trans (Nat.le_of_ble_eq_true rfl) hRl) rfl hl.1 (Nat.le_of_ble_eq_true rfl) rfl dX6_gather_78 (fun u H locs h hw => ?_)
    exact hret _ _ _ _ _ h hw dX6_gather_81

def v_6_gather (a0 : Int) (Q : iST → Prop) (u : iST) : Prop :=
  bd 10 17 (rd (u.2.1 51 (17 * a0 + 10)) (fun v1 => 
  br (v1 < 0) (
    v_6_gather_29 Q a0 u) (
    bd 10 17 (rd (u.2.1 51 (17 * a0 + 10)) (fun v25 => 
    br (6 ≤ v25) (
      v_6_gather_29 Q a0 u) (
      bd 10 17 (rd (u.2.1 51 (17 * a0 + 10)) (fun v26 => 
      ov (11 + v26) (
      rd (u.1 24) (fun v28 => 
      bd (11 + v26) 17 (sw (iA u 51 (17 * a0 + (11 + v26)) v28) (fun u => 
      v_6_gather_29 Q a0 u))))))))))))
set_option maxRecDepth 20000 in
set_option maxHeartbeats 4000000 in
theorem f_6_gather_s (X : yX RX6 p m c cX6_gather 5 s args D ca ad A) (hRf : 2 ≤ R.frames) (hRl : 84 ≤ R.locals) {Q : iST → Prop} (hret : ∀ (u : iST) (H : Heap) (locs : List Loc) (ls : Array Slot) (pc : Nat), Q u → yW D ca A ad s H locs u → decode cX6_gather pc = .ok (.return_, 1) → W p l e R s m args below meth c H locs 0 0 Qf (F0 m pc ls [])) {a0 : Int} (ra0 : (0 ≤ a0 ∧ a0 < 60)) (hw : yW D ca A ad s H locs u) (hl : lv_has ls 5 [(0, .ref (ad 0 5)), (1, .ref (ad 7 a0.toNat))]) (h : v_6_gather a0 Q u) : W p l e R s m args below meth c H locs 0 0 Qf (F0 m 0 ls []) := by
  have hx := X.1.1
  have hb := X.1.2.1
  unfold v_6_gather at h
  refine lv_aload_n hx hb dX6_gather_0 rfl (lv_at hl 1 rfl) ?_
  refine lv_bipush hx hb dX6_gather_1 (v := jI 10) rfl ?_
  refine yfl_frames X hw ra0 (by decide) dX6_gather_3 h (fun v1 rv1 h => ?_)
  refine k_if_lt hx hb rv1 dX6_gather_4 (tgt := 29) rfl h (fun h => ?_) (fun h => ?_)
  · exact f_6_gather_29 X hRf hRl hret ra0 hw hl h
  · refine lv_aload_n hx hb dX6_gather_7 rfl (lv_at hl 1 rfl) ?_
    refine lv_bipush hx hb dX6_gather_8 (v := jI 10) rfl ?_
    refine yfl_frames X hw ra0 (by decide) dX6_gather_10 h (fun v25 rv25 h => ?_)
    refine lv_bipush hx hb dX6_gather_11 (v := jI 6) rfl ?_
    refine k_icmp_ge hx hb rv25 (by decide) dX6_gather_13 (tgt := 29) rfl h (fun h => ?_) (fun h => ?_)
    · exact f_6_gather_29 X hRf hRl hret ra0 hw hl h
    · refine lv_aload_n hx hb dX6_gather_16 rfl (lv_at hl 1 rfl) ?_
      refine lv_bipush hx hb dX6_gather_17 (v := jI 11) rfl ?_
      refine lv_aload_n hx hb dX6_gather_19 rfl (lv_at hl 1 rfl) ?_
      refine lv_bipush hx hb dX6_gather_20 (v := jI 10) rfl ?_
      refine yfl_frames X hw ra0 (by decide) dX6_gather_22 h (fun v26 rv26 h => ?_)
      refine k_iadd hx hb dX6_gather_23 h (fun r27 h => ?_)
      refine lv_aload_n hx hb dX6_gather_24 rfl (lv_at hl 0 rfl) ?_
      refine yg_6_20 X hw dX6_gather_25 h (fun v28 rv28 h => ?_)
      refine yft_frames X hw ra0 r27 rv28 dX6_gather_28 h (fun H locs u hw h => ?_)
      exact f_6_gather_29 X hRf hRl hret ra0 hw hl h

end
theorem e_6_gather {l : Launch} {a0 : Int} (ra0 : (0 ≤ a0 ∧ a0 < 60)) {Q : iST → Prop} {u : iST} (h : v_6_gather a0 Q u) : yMV l yX6_gather (.code yX6_gather cX6_gather 5 none :: wsN) { frames := 2, cells := 0, slots := 0, locals := 84 } (fun ad => [.ref (ad 0 5), .ref (ad 7 a0.toNat)]) Q u := yMV_of (own := RX6) rfl (by decide +kernel) (fun _ => Nat.le_of_ble_eq_true rfl) (fun X hRf hRl hret hw hl => f_6_gather_s X hRf hRl hret ra0 hw hl h)
