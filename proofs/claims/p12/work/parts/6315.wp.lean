/-! ProofHouse$Room.isCallOf -/
theorem dX7_isCallOf_0 : decode cX7_isCallOf 0 = .ok (.iload_n 1, 1) := by decide +kernel
theorem dX7_isCallOf_1 : decode cX7_isCallOf 1 = .ok (.ifCond .lt 43, 3) := by decide +kernel
theorem dX7_isCallOf_4 : decode cX7_isCallOf 4 = .ok (.iload_n 1, 1) := by decide +kernel
theorem dX7_isCallOf_5 : decode cX7_isCallOf 5 = .ok (.aload_n 0, 1) := by decide +kernel
theorem dX7_isCallOf_6 : decode cX7_isCallOf 6 = .ok (.getfield 30, 3) := by decide +kernel
theorem dX7_isCallOf_9 : decode cX7_isCallOf 9 = .ok (.if_icmp .ge 35, 3) := by decide +kernel
theorem dX7_isCallOf_12 : decode cX7_isCallOf 12 = .ok (.aload_n 0, 1) := by decide +kernel
theorem dX7_isCallOf_13 : decode cX7_isCallOf 13 = .ok (.getfield 12, 3) := by decide +kernel
theorem dX7_isCallOf_16 : decode cX7_isCallOf 16 = .ok (.iload_n 1, 1) := by decide +kernel
theorem dX7_isCallOf_17 : decode cX7_isCallOf 17 = .ok (.laload, 1) := by decide +kernel
theorem dX7_isCallOf_18 : decode cX7_isCallOf 18 = .ok (.lconst 0, 1) := by decide +kernel
theorem dX7_isCallOf_19 : decode cX7_isCallOf 19 = .ok (.lcmp, 1) := by decide +kernel
theorem dX7_isCallOf_20 : decode cX7_isCallOf 20 = .ok (.ifCond .ge 24, 3) := by decide +kernel
theorem dX7_isCallOf_23 : decode cX7_isCallOf 23 = .ok (.aload_n 0, 1) := by decide +kernel
theorem dX7_isCallOf_24 : decode cX7_isCallOf 24 = .ok (.getfield 12, 3) := by decide +kernel
theorem dX7_isCallOf_27 : decode cX7_isCallOf 27 = .ok (.iload_n 1, 1) := by decide +kernel
theorem dX7_isCallOf_28 : decode cX7_isCallOf 28 = .ok (.laload, 1) := by decide +kernel
theorem dX7_isCallOf_29 : decode cX7_isCallOf 29 = .ok (.bipush 31, 2) := by decide +kernel
theorem dX7_isCallOf_31 : decode cX7_isCallOf 31 = .ok (.lushr, 1) := by decide +kernel
theorem dX7_isCallOf_32 : decode cX7_isCallOf 32 = .ok (.l2i, 1) := by decide +kernel
theorem dX7_isCallOf_33 : decode cX7_isCallOf 33 = .ok (.ldc 77, 2) := by decide +kernel
theorem dX7_isCallOf_35 : decode cX7_isCallOf 35 = .ok (.iand, 1) := by decide +kernel
theorem dX7_isCallOf_36 : decode cX7_isCallOf 36 = .ok (.iload_n 2, 1) := by decide +kernel
theorem dX7_isCallOf_37 : decode cX7_isCallOf 37 = .ok (.if_icmp .ne 7, 3) := by decide +kernel
theorem dX7_isCallOf_40 : decode cX7_isCallOf 40 = .ok (.iconst 1, 1) := by decide +kernel
theorem dX7_isCallOf_41 : decode cX7_isCallOf 41 = .ok (.goto 4, 3) := by decide +kernel
theorem dX7_isCallOf_44 : decode cX7_isCallOf 44 = .ok (.iconst 0, 1) := by decide +kernel
theorem dX7_isCallOf_45 : decode cX7_isCallOf 45 = .ok (.ireturn, 1) := by decide +kernel

section
variable {p : Program} {l : Launch} {e : Env} {R : Room} {s : State} {m : MethodId} {args : Array Value} {below : List Frame} {meth : Method} {c : Code} {H : Heap} {locs : List Loc} {Qf : State → Prop}
variable {ls : Array Slot} {D : va_G} {ca : Nat → ClassId} {A : Nat → Prop} {ad : Nat → Nat → Nat} {u : iST}
def v_7_isCallOf (a0 : Int) (a1 : Int) (Q : Int → iST → Prop) (u : iST) : Prop :=
  br (a0 < 0) (
    zt 0 (Q 0 u)) (
    rd (u.1 29) (fun v1 => 
    br (v1 ≤ a0) (
      zt 0 (Q 0 u)) (
      bd a0 160000 (rl (u.2.2 a0) (fun v2 => 
      br (0 ≤ v2) (
        zt 0 (Q 0 u)) (
        bd a0 160000 (rl (u.2.2 a0) (fun v3 => 
        rl (wlushr v3 31) (fun v4 => 
        rd (wl2i v4) (fun v5 => 
        rd (wand v5 2147483647) (fun v6 => 
        br (v6 ≠ a1) (
          zt 0 (Q 0 u)) (
          zt 1 (Q 1 u)))))))))))))
set_option maxRecDepth 20000 in
set_option maxHeartbeats 4000000 in
theorem f_7_isCallOf_s (X : yX RX7 p m c cX7_isCallOf 3 s args D ca ad A) (hRf : 0 ≤ R.frames) (hRl : 0 ≤ R.locals) {Q : Int → iST → Prop} (hret : ∀ (v : Int) (u : iST) (H : Heap) (locs : List Loc) (ls : Array Slot) (pc : Nat), bz v → Q v u → yW D ca A ad s H locs u → decode cX7_isCallOf pc = .ok (.ireturn, 1) → W p l e R s m args below meth c H locs 0 0 Qf (F0 m pc ls [.int (jI v)])) {a0 a1 : Int} (ra0 : inR a0) (ra1 : inR a1) (hw : yW D ca A ad s H locs u) (hl : lv_has ls 3 [(0, .ref (ad 0 6)), (1, .int (jI a0)), (2, .int (jI a1))]) (h : v_7_isCallOf a0 a1 Q u) : W p l e R s m args below meth c H locs 0 0 Qf (F0 m 0 ls []) := by
  have hx := X.1.1
  have hb := X.1.2.1
  unfold v_7_isCallOf at h
  refine lv_iload_n hx hb dX7_isCallOf_0 rfl (lv_at hl 1 rfl) ?_
  refine k_if_lt hx hb ra0 dX7_isCallOf_1 (tgt := 44) rfl h (fun h => ?_) (fun h => ?_)
  · refine lv_iconst hx hb dX7_isCallOf_44 (v := jI 0) rfl ?_
    exact hret _ _ _ _ _ _ h.1 h.2 hw dX7_isCallOf_45
  · refine lv_iload_n hx hb dX7_isCallOf_4 rfl (lv_at hl 1 rfl) ?_
    refine lv_aload_n hx hb dX7_isCallOf_5 rfl (lv_at hl 0 rfl) ?_
    refine yg_7_30 X hw dX7_isCallOf_6 h (fun v1 rv1 h => ?_)
    refine k_icmp_ge hx hb ra0 rv1 dX7_isCallOf_9 (tgt := 44) rfl h (fun h => ?_) (fun h => ?_)
    · refine lv_iconst hx hb dX7_isCallOf_44 (v := jI 0) rfl ?_
      exact hret _ _ _ _ _ _ h.1 h.2 hw dX7_isCallOf_45
    · refine lv_aload_n hx hb dX7_isCallOf_12 rfl (lv_at hl 0 rfl) ?_
      refine yg_7_12 X hw dX7_isCallOf_13 ?_
      refine lv_iload_n hx hb dX7_isCallOf_16 rfl (lv_at hl 1 rfl) ?_
      refine yJl X hw ra0 dX7_isCallOf_17 h (fun v2 rv2 h => ?_)
      refine lv_lconst hx hb dX7_isCallOf_18 (v := jL 0) rfl ?_
      refine k_lcmp_ge hx hb rv2 (by decide) dX7_isCallOf_19 dX7_isCallOf_20 (tgt := 44) rfl h (fun h => ?_) (fun h => ?_)
      · refine lv_iconst hx hb dX7_isCallOf_44 (v := jI 0) rfl ?_
        exact hret _ _ _ _ _ _ h.1 h.2 hw dX7_isCallOf_45
      · refine lv_aload_n hx hb dX7_isCallOf_23 rfl (lv_at hl 0 rfl) ?_
        refine yg_7_12 X hw dX7_isCallOf_24 ?_
        refine lv_iload_n hx hb dX7_isCallOf_27 rfl (lv_at hl 1 rfl) ?_
        refine yJl X hw ra0 dX7_isCallOf_28 h (fun v3 rv3 h => ?_)
        refine lv_bipush hx hb dX7_isCallOf_29 (v := jI 31) rfl ?_
        refine k_wlushr hx hb dX7_isCallOf_31 h (fun v4 rv4 h => ?_)
        refine k_l2i hx hb dX7_isCallOf_32 h (fun v5 rv5 h => ?_)
        refine yld 77 yK_7_77 X dX7_isCallOf_33 ?_
        refine k_iand hx hb dX7_isCallOf_35 h (fun v6 rv6 h => ?_)
        refine lv_iload_n hx hb dX7_isCallOf_36 rfl (lv_at hl 2 rfl) ?_
        refine k_icmp_ne hx hb rv6 ra1 dX7_isCallOf_37 (tgt := 44) rfl h (fun h => ?_) (fun h => ?_)
        · refine lv_iconst hx hb dX7_isCallOf_44 (v := jI 0) rfl ?_
          exact hret _ _ _ _ _ _ h.1 h.2 hw dX7_isCallOf_45
        · refine lv_iconst hx hb dX7_isCallOf_40 (v := jI 1) rfl ?_
          refine lv_goto hx hb dX7_isCallOf_41 (tgt := 45) rfl ?_
          exact hret _ _ _ _ _ _ h.1 h.2 hw dX7_isCallOf_45

end
theorem e_7_isCallOf {l : Launch} {a0 : Int} {a1 : Int} (ra0 : inR a0) (ra1 : inR a1) {Q : Int → iST → Prop} {u : iST} (h : v_7_isCallOf a0 a1 Q u) : yMI l yX7_isCallOf (.code yX7_isCallOf cX7_isCallOf 3 (some .boolean) :: wsN) { frames := 0, cells := 0, slots := 0, locals := 0 } (fun ad => [.ref (ad 0 6), .int (jI a0), .int (jI a1)]) Q u := yMZ_of (own := RX7) rfl (by decide +kernel) (fun _ => Nat.le_of_ble_eq_true rfl) (fun X hRf hRl hret hw hl => f_7_isCallOf_s X hRf hRl hret ra0 ra1 hw hl h)

/-! ProofHouse$Schemes.goToPath -/
theorem dX8_goToPath_0 : decode cX8_goToPath 0 = .ok (.iload_n 1, 1) := by decide +kernel
theorem dX8_goToPath_1 : decode cX8_goToPath 1 = .ok (.istore_n 2, 1) := by decide +kernel
theorem dX8_goToPath_2 : decode cX8_goToPath 2 = .ok (.iload_n 1, 1) := by decide +kernel
theorem dX8_goToPath_3 : decode cX8_goToPath 3 = .ok (.iconst (-1), 1) := by decide +kernel
theorem dX8_goToPath_4 : decode cX8_goToPath 4 = .ok (.if_icmp .eq 11, 3) := by decide +kernel
theorem dX8_goToPath_7 : decode cX8_goToPath 7 = .ok (.aload_n 0, 1) := by decide +kernel
theorem dX8_goToPath_8 : decode cX8_goToPath 8 = .ok (.iconst 0, 1) := by decide +kernel
theorem dX8_goToPath_9 : decode cX8_goToPath 9 = .ok (.putfield 19, 3) := by decide +kernel
theorem dX8_goToPath_12 : decode cX8_goToPath 12 = .ok (.goto 78, 3) := by decide +kernel
theorem dX8_goToPath_15 : decode cX8_goToPath 15 = .ok (.aload_n 0, 1) := by decide +kernel
theorem dX8_goToPath_16 : decode cX8_goToPath 16 = .ok (.getfield 19, 3) := by decide +kernel
theorem dX8_goToPath_19 : decode cX8_goToPath 19 = .ok (.ifCond .le 30, 3) := by decide +kernel
theorem dX8_goToPath_22 : decode cX8_goToPath 22 = .ok (.aload_n 0, 1) := by decide +kernel
theorem dX8_goToPath_23 : decode cX8_goToPath 23 = .ok (.getfield 15, 3) := by decide +kernel
theorem dX8_goToPath_26 : decode cX8_goToPath 26 = .ok (.aload_n 0, 1) := by decide +kernel
theorem dX8_goToPath_27 : decode cX8_goToPath 27 = .ok (.getfield 19, 3) := by decide +kernel
theorem dX8_goToPath_30 : decode cX8_goToPath 30 = .ok (.iconst 1, 1) := by decide +kernel
theorem dX8_goToPath_31 : decode cX8_goToPath 31 = .ok (.isub, 1) := by decide +kernel
theorem dX8_goToPath_32 : decode cX8_goToPath 32 = .ok (.baload, 1) := by decide +kernel
theorem dX8_goToPath_33 : decode cX8_goToPath 33 = .ok (.ifCond .eq 16, 3) := by decide +kernel
theorem dX8_goToPath_36 : decode cX8_goToPath 36 = .ok (.aload_n 0, 1) := by decide +kernel
theorem dX8_goToPath_37 : decode cX8_goToPath 37 = .ok (.dup, 1) := by decide +kernel
theorem dX8_goToPath_38 : decode cX8_goToPath 38 = .ok (.getfield 19, 3) := by decide +kernel
theorem dX8_goToPath_41 : decode cX8_goToPath 41 = .ok (.iconst 1, 1) := by decide +kernel
theorem dX8_goToPath_42 : decode cX8_goToPath 42 = .ok (.isub, 1) := by decide +kernel
theorem dX8_goToPath_43 : decode cX8_goToPath 43 = .ok (.putfield 19, 3) := by decide +kernel
theorem dX8_goToPath_46 : decode cX8_goToPath 46 = .ok (.goto (-31), 3) := by decide +kernel
theorem dX8_goToPath_49 : decode cX8_goToPath 49 = .ok (.aload_n 0, 1) := by decide +kernel
theorem dX8_goToPath_50 : decode cX8_goToPath 50 = .ok (.getfield 19, 3) := by decide +kernel
theorem dX8_goToPath_53 : decode cX8_goToPath 53 = .ok (.ifCond .ne 5, 3) := by decide +kernel
theorem dX8_goToPath_56 : decode cX8_goToPath 56 = .ok (.iconst 0, 1) := by decide +kernel
theorem dX8_goToPath_57 : decode cX8_goToPath 57 = .ok (.ireturn, 1) := by decide +kernel
theorem dX8_goToPath_58 : decode cX8_goToPath 58 = .ok (.aload_n 0, 1) := by decide +kernel
theorem dX8_goToPath_59 : decode cX8_goToPath 59 = .ok (.getfield 15, 3) := by decide +kernel
theorem dX8_goToPath_62 : decode cX8_goToPath 62 = .ok (.aload_n 0, 1) := by decide +kernel
theorem dX8_goToPath_63 : decode cX8_goToPath 63 = .ok (.getfield 19, 3) := by decide +kernel
theorem dX8_goToPath_66 : decode cX8_goToPath 66 = .ok (.iconst 1, 1) := by decide +kernel
theorem dX8_goToPath_67 : decode cX8_goToPath 67 = .ok (.isub, 1) := by decide +kernel
theorem dX8_goToPath_68 : decode cX8_goToPath 68 = .ok (.iconst 1, 1) := by decide +kernel
theorem dX8_goToPath_69 : decode cX8_goToPath 69 = .ok (.bastore, 1) := by decide +kernel
theorem dX8_goToPath_70 : decode cX8_goToPath 70 = .ok (.aload_n 0, 1) := by decide +kernel
theorem dX8_goToPath_71 : decode cX8_goToPath 71 = .ok (.getfield 38, 3) := by decide +kernel
theorem dX8_goToPath_74 : decode cX8_goToPath 74 = .ok (.aload_n 0, 1) := by decide +kernel
theorem dX8_goToPath_75 : decode cX8_goToPath 75 = .ok (.getfield 11, 3) := by decide +kernel
theorem dX8_goToPath_78 : decode cX8_goToPath 78 = .ok (.aload_n 0, 1) := by decide +kernel
theorem dX8_goToPath_79 : decode cX8_goToPath 79 = .ok (.getfield 19, 3) := by decide +kernel
theorem dX8_goToPath_82 : decode cX8_goToPath 82 = .ok (.iconst 1, 1) := by decide +kernel
theorem dX8_goToPath_83 : decode cX8_goToPath 83 = .ok (.isub, 1) := by decide +kernel
theorem dX8_goToPath_84 : decode cX8_goToPath 84 = .ok (.iaload, 1) := by decide +kernel
theorem dX8_goToPath_85 : decode cX8_goToPath 85 = .ok (.iconst 3, 1) := by decide +kernel
theorem dX8_goToPath_86 : decode cX8_goToPath 86 = .ok (.invokevirtual 50, 3) := by decide +kernel
theorem dX8_goToPath_89 : decode cX8_goToPath 89 = .ok (.istore_n 2, 1) := by decide +kernel
theorem dX8_goToPath_90 : decode cX8_goToPath 90 = .ok (.aload_n 0, 1) := by decide +kernel
theorem dX8_goToPath_91 : decode cX8_goToPath 91 = .ok (.getfield 38, 3) := by decide +kernel
theorem dX8_goToPath_94 : decode cX8_goToPath 94 = .ok (.iload_n 2, 1) := by decide +kernel
theorem dX8_goToPath_95 : decode cX8_goToPath 95 = .ok (.iconst 3, 1) := by decide +kernel
theorem dX8_goToPath_96 : decode cX8_goToPath 96 = .ok (.invokevirtual 56, 3) := by decide +kernel
theorem dX8_goToPath_99 : decode cX8_goToPath 99 = .ok (.ifCond .eq 55, 3) := by decide +kernel
theorem dX8_goToPath_102 : decode cX8_goToPath 102 = .ok (.aload_n 0, 1) := by decide +kernel
theorem dX8_goToPath_103 : decode cX8_goToPath 103 = .ok (.getfield 19, 3) := by decide +kernel
theorem dX8_goToPath_106 : decode cX8_goToPath 106 = .ok (.bipush 64, 2) := by decide +kernel
theorem dX8_goToPath_108 : decode cX8_goToPath 108 = .ok (.if_icmp .ge 46, 3) := by decide +kernel
theorem dX8_goToPath_111 : decode cX8_goToPath 111 = .ok (.aload_n 0, 1) := by decide +kernel
theorem dX8_goToPath_112 : decode cX8_goToPath 112 = .ok (.getfield 11, 3) := by decide +kernel
theorem dX8_goToPath_115 : decode cX8_goToPath 115 = .ok (.aload_n 0, 1) := by decide +kernel
theorem dX8_goToPath_116 : decode cX8_goToPath 116 = .ok (.getfield 19, 3) := by decide +kernel
theorem dX8_goToPath_119 : decode cX8_goToPath 119 = .ok (.iload_n 2, 1) := by decide +kernel
theorem dX8_goToPath_120 : decode cX8_goToPath 120 = .ok (.iastore, 1) := by decide +kernel
theorem dX8_goToPath_121 : decode cX8_goToPath 121 = .ok (.aload_n 0, 1) := by decide +kernel
theorem dX8_goToPath_122 : decode cX8_goToPath 122 = .ok (.getfield 15, 3) := by decide +kernel
theorem dX8_goToPath_125 : decode cX8_goToPath 125 = .ok (.aload_n 0, 1) := by decide +kernel
theorem dX8_goToPath_126 : decode cX8_goToPath 126 = .ok (.getfield 19, 3) := by decide +kernel
theorem dX8_goToPath_129 : decode cX8_goToPath 129 = .ok (.iconst 0, 1) := by decide +kernel
theorem dX8_goToPath_130 : decode cX8_goToPath 130 = .ok (.bastore, 1) := by decide +kernel
theorem dX8_goToPath_131 : decode cX8_goToPath 131 = .ok (.aload_n 0, 1) := by decide +kernel
theorem dX8_goToPath_132 : decode cX8_goToPath 132 = .ok (.dup, 1) := by decide +kernel
theorem dX8_goToPath_133 : decode cX8_goToPath 133 = .ok (.getfield 19, 3) := by decide +kernel
theorem dX8_goToPath_136 : decode cX8_goToPath 136 = .ok (.iconst 1, 1) := by decide +kernel
theorem dX8_goToPath_137 : decode cX8_goToPath 137 = .ok (.iadd, 1) := by decide +kernel
theorem dX8_goToPath_138 : decode cX8_goToPath 138 = .ok (.putfield 19, 3) := by decide +kernel
theorem dX8_goToPath_141 : decode cX8_goToPath 141 = .ok (.aload_n 0, 1) := by decide +kernel
theorem dX8_goToPath_142 : decode cX8_goToPath 142 = .ok (.getfield 38, 3) := by decide +kernel
theorem dX8_goToPath_145 : decode cX8_goToPath 145 = .ok (.iload_n 2, 1) := by decide +kernel
theorem dX8_goToPath_146 : decode cX8_goToPath 146 = .ok (.iconst 2, 1) := by decide +kernel
theorem dX8_goToPath_147 : decode cX8_goToPath 147 = .ok (.invokevirtual 50, 3) := by decide +kernel
theorem dX8_goToPath_150 : decode cX8_goToPath 150 = .ok (.istore_n 2, 1) := by decide +kernel
theorem dX8_goToPath_151 : decode cX8_goToPath 151 = .ok (.goto (-61), 3) := by decide +kernel
theorem dX8_goToPath_154 : decode cX8_goToPath 154 = .ok (.aload_n 0, 1) := by decide +kernel
theorem dX8_goToPath_155 : decode cX8_goToPath 155 = .ok (.iload_n 2, 1) := by decide +kernel
theorem dX8_goToPath_156 : decode cX8_goToPath 156 = .ok (.putfield 23, 3) := by decide +kernel
theorem dX8_goToPath_159 : decode cX8_goToPath 159 = .ok (.iconst 1, 1) := by decide +kernel
theorem dX8_goToPath_160 : decode cX8_goToPath 160 = .ok (.ireturn, 1) := by decide +kernel

section
variable {p : Program} {l : Launch} {e : Env} {R : Room} {s : State} {m : MethodId} {args : Array Value} {below : List Frame} {meth : Method} {c : Code} {H : Heap} {locs : List Loc} {Qf : State → Prop}
variable {ls : Array Slot} {D : va_G} {ca : Nat → ClassId} {A : Nat → Prop} {ad : Nat → Nat → Nat} {u : iST}
def v_8_goToPath_154 (Q : Int → iST → Prop) (x2 : Int) (u : iST) : Prop :=
  sw (iI u 34 x2) (fun u => 
  zt 1 (Q 1 u))
set_option maxRecDepth 20000 in
set_option maxHeartbeats 4000000 in
theorem f_8_goToPath_154 (X : yX RX8 p m c cX8_goToPath 3 s args D ca ad A) (hRf : 1 ≤ R.frames) (hRl : 24 ≤ R.locals) {Q : Int → iST → Prop} (hret : ∀ (v : Int) (u : iST) (H : Heap) (locs : List Loc) (ls : Array Slot) (pc : Nat), bz v → Q v u → yW D ca A ad s H locs u → decode cX8_goToPath pc = .ok (.ireturn, 1) → W p l e R s m args below meth c H locs 0 0 Qf (F0 m pc ls [.int (jI v)])) {x2 : Int} (rx2 : inR x2) (hw : yW D ca A ad s H locs u) (hl : lv_has ls 3 [(0, .ref (ad 0 7)), (2, .int (jI x2))]) (h : v_8_goToPath_154 Q x2 u) : W p l e R s m args below meth c H locs 0 0 Qf (F0 m 154 ls []) := by
  have hx := X.1.1
  have hb := X.1.2.1
  unfold v_8_goToPath_154 at h
  refine lv_aload_n hx hb dX8_goToPath_154 rfl (lv_at hl 0 rfl) ?_
  refine lv_iload_n hx hb dX8_goToPath_155 rfl (lv_at hl 1 rfl) ?_
  refine yp_8_23 X hw rx2 dX8_goToPath_156 h (fun H locs u hw h => ?_)
  refine lv_iconst hx hb dX8_goToPath_159 (v := jI 1) rfl ?_
  exact hret _ _ _ _ _ _ h.1 h.2 hw dX8_goToPath_160

def v_8_goToPath_90b (R90 : Int → iST → Prop) (Q : Int → iST → Prop) (x2 : Int) (u : iST) : Prop :=
  v_7_isCallOf x2 3 (fun v9 u => 
  br (v9 = 0) (
    v_8_goToPath_154 Q x2 u) (
    rd (u.1 33) (fun v10 => 
    br (64 ≤ v10) (
      v_8_goToPath_154 Q x2 u) (
      rd (u.1 33) (fun v11 => 
      bd v11 64 (sw (iA u 31 v11 x2) (fun u => 
      rd (u.1 33) (fun v12 => 
      zt 0 (bd v12 64 (sw (iA u 32 v12 0) (fun u => 
      rd (u.1 33) (fun v13 => 
      ov (v13 + 1) (
      sw (iI u 33 (v13 + 1)) (fun u => 
      v_7_item x2 2 (fun v15 u => 
      R90 v15 u) u)))))))))))))) u
def v_8_goToPath_90 (Q : Int → iST → Prop) (x2 : Int) (u : iST) : Prop := ∀ R90 : Int → iST → Prop, (∀ (x2 : Int) (u : iST), v_8_goToPath_90b R90 Q x2 u → R90 x2 u) → R90 x2 u
set_option maxRecDepth 20000 in
set_option maxHeartbeats 4000000 in
theorem f_8_goToPath_90 (X : yX RX8 p m c cX8_goToPath 3 s args D ca ad A) (hRf : 1 ≤ R.frames) (hRl : 24 ≤ R.locals) {Q : Int → iST → Prop} (hret : ∀ (v : Int) (u : iST) (H : Heap) (locs : List Loc) (ls : Array Slot) (pc : Nat), bz v → Q v u → yW D ca A ad s H locs u → decode cX8_goToPath pc = .ok (.ireturn, 1) → W p l e R s m args below meth c H locs 0 0 Qf (F0 m pc ls [.int (jI v)])) {x2 : Int} (rx2 : inR x2) (hw : yW D ca A ad s H locs u) (hl : lv_has ls 3 [(0, .ref (ad 0 7)), (2, .int (jI x2))]) (h : v_8_goToPath_90 Q x2 u) : W p l e R s m args below meth c H locs 0 0 Qf (F0 m 90 ls []) := by
  refine h (fun x2 u => ∀ (H : Heap) (locs : List Loc) (ls : Array Slot), inR x2 → yW D ca A ad s H locs u → lv_has ls 3 [(0, .ref (ad 0 7)), (2, .int (jI x2))] → W p l e R s m args below meth c H locs 0 0 Qf (F0 m 90 ls [])) ?_ H locs ls rx2 hw hl
  clear h hl hw rx2
  intro x2 u h H locs ls rx2 hw hl
  have hR90 : ∀ (x2 : Int) (u : iST) (H : Heap) (locs : List Loc) (ls : Array Slot), inR x2 → yW D ca A ad s H locs u → lv_has ls 3 [(0, .ref (ad 0 7)), (2, .int (jI x2))] → (fun (x2 : Int) u => ∀ (H : Heap) (locs : List Loc) (ls : Array Slot), inR x2 → yW D ca A ad s H locs u → lv_has ls 3 [(0, .ref (ad 0 7)), (2, .int (jI x2))] → W p l e R s m args below meth c H locs 0 0 Qf (F0 m 90 ls [])) x2 u → W p l e R s m args below meth c H locs 0 0 Qf (F0 m 90 ls []) := fun x2 u H locs ls rx2 hw hl h => h H locs ls rx2 hw hl
  have hx := X.1.1
  have hb := X.1.2.1
  unfold v_8_goToPath_90b at h
  refine lv_aload_n hx hb dX8_goToPath_90 rfl (lv_at hl 0 rfl) ?_
  refine yg_8_38 X hw dX8_goToPath_91 ?_
  refine lv_iload_n hx hb dX8_goToPath_94 rfl (lv_at hl 1 rfl) ?_
  refine lv_iconst hx hb dX8_goToPath_95 (v := jI 3) rfl ?_
  refine ycI (n := 2) (e_7_isCallOf rx2 (by decide) h) 7 6 (r := (RX7, TX7, 9)) rfl yG_8_56 yD_7_isCallOf X hw rfl yGo_7 (Nat.le_trans (Nat.le_of_ble_eq_true rfl) hRf) (Nat.le_trans (Nat.le_of_ble_eq_true rfl) hRl) rfl hl.1 (Nat.le_of_ble_eq_true rfl) rfl dX8_goToPath_96 (fun v9 u H locs rv9 h hw => ?_)
  refine k_if_eq hx hb rv9 dX8_goToPath_99 (tgt := 154) rfl h (fun h => ?_) (fun h => ?_)
  · exact f_8_goToPath_154 X hRf hRl hret rx2 hw hl h
  · refine lv_aload_n hx hb dX8_goToPath_102 rfl (lv_at hl 0 rfl) ?_
    refine yg_8_19 X hw dX8_goToPath_103 h (fun v10 rv10 h => ?_)
    refine lv_bipush hx hb dX8_goToPath_106 (v := jI 64) rfl ?_
    refine k_icmp_ge hx hb rv10 (by decide) dX8_goToPath_108 (tgt := 154) rfl h (fun h => ?_) (fun h => ?_)
    · exact f_8_goToPath_154 X hRf hRl hret rx2 hw hl h
    · refine lv_aload_n hx hb dX8_goToPath_111 rfl (lv_at hl 0 rfl) ?_
      refine yg_8_11 X hw dX8_goToPath_112 ?_
      refine lv_aload_n hx hb dX8_goToPath_115 rfl (lv_at hl 0 rfl) ?_
      refine yg_8_19 X hw dX8_goToPath_116 h (fun v11 rv11 h => ?_)
      refine lv_iload_n hx hb dX8_goToPath_119 rfl (lv_at hl 1 rfl) ?_
      refine yt_31 X hw rv11 rx2 dX8_goToPath_120 h (fun H locs u hw h => ?_)
      refine lv_aload_n hx hb dX8_goToPath_121 rfl (lv_at hl 0 rfl) ?_
      refine yg_8_15 X hw dX8_goToPath_122 ?_
      refine lv_aload_n hx hb dX8_goToPath_125 rfl (lv_at hl 0 rfl) ?_
      refine yg_8_19 X hw dX8_goToPath_126 h (fun v12 rv12 h => ?_)
      refine lv_iconst hx hb dX8_goToPath_129 (v := jI 0) rfl ?_
      refine yt_32 X hw rv12 dX8_goToPath_130 h (fun H locs u hw h => ?_)
      refine lv_aload_n hx hb dX8_goToPath_131 rfl (lv_at hl 0 rfl) ?_
      refine lv_dup hx hb dX8_goToPath_132 rfl ?_
      refine yg_8_19 X hw dX8_goToPath_133 h (fun v13 rv13 h => ?_)
      refine lv_iconst hx hb dX8_goToPath_136 (v := jI 1) rfl ?_
      refine k_iadd hx hb dX8_goToPath_137 h (fun r14 h => ?_)
      refine yp_8_19 X hw r14 dX8_goToPath_138 h (fun H locs u hw h => ?_)
      refine lv_aload_n hx hb dX8_goToPath_141 rfl (lv_at hl 0 rfl) ?_
      refine yg_8_38 X hw dX8_goToPath_142 ?_
      refine lv_iload_n hx hb dX8_goToPath_145 rfl (lv_at hl 1 rfl) ?_
      refine lv_iconst hx hb dX8_goToPath_146 (v := jI 2) rfl ?_
      refine ycI (n := 2) (e_7_item rx2 (by decide) h) 7 6 (r := (RX7, TX7, 9)) rfl yG_8_50 yD_7_item X hw rfl yGo_7 (Nat.le_trans (Nat.le_of_ble_eq_true rfl) hRf) (Nat.le_trans (Nat.le_of_ble_eq_true rfl) hRl) rfl hl.1 (Nat.le_of_ble_eq_true rfl) rfl dX8_goToPath_147 (fun v15 u H locs rv15 h hw => ?_)
      refine lv_istore_n hx hb dX8_goToPath_150 rfl hl (by decide) rfl (fun ls hl => ?_)
      have hl : lv_has ls 3 [(2, .int (jI v15)), (0, .ref (ad 0 7))] := hl
      refine lv_goto hx hb dX8_goToPath_151 (tgt := 90) rfl ?_
      exact hR90 _ _ H locs ls rv15 hw (lv_sub hl [1, 0] rfl) h

def v_8_goToPath_49 (Q : Int → iST → Prop) (u : iST) : Prop :=
  rd (u.1 33) (fun v2 => 
  br (v2 ≠ 0) (
    rd (u.1 33) (fun v3 => 
    ov (v3 - 1) (
    zt 1 (bd (v3 - 1) 64 (sw (iA u 32 (v3 - 1) 1) (fun u => 
    rd (u.1 33) (fun v5 => 
    ov (v5 - 1) (
    bd (v5 - 1) 64 (rd (u.2.1 31 (v5 - 1)) (fun v7 => 
    v_7_item v7 3 (fun v8 u => 
    v_8_goToPath_90 Q v8 u) u)))))))))) (
    zt 0 (Q 0 u)))
set_option maxRecDepth 20000 in
set_option maxHeartbeats 4000000 in
theorem f_8_goToPath_49 (X : yX RX8 p m c cX8_goToPath 3 s args D ca ad A) (hRf : 1 ≤ R.frames) (hRl : 24 ≤ R.locals) {Q : Int → iST → Prop} (hret : ∀ (v : Int) (u : iST) (H : Heap) (locs : List Loc) (ls : Array Slot) (pc : Nat), bz v → Q v u → yW D ca A ad s H locs u → decode cX8_goToPath pc = .ok (.ireturn, 1) → W p l e R s m args below meth c H locs 0 0 Qf (F0 m pc ls [.int (jI v)])) (hw : yW D ca A ad s H locs u) (hl : lv_has ls 3 [(0, .ref (ad 0 7))]) (h : v_8_goToPath_49 Q u) : W p l e R s m args below meth c H locs 0 0 Qf (F0 m 49 ls []) := by
  have hx := X.1.1
  have hb := X.1.2.1
  unfold v_8_goToPath_49 at h
  refine lv_aload_n hx hb dX8_goToPath_49 rfl (lv_at hl 0 rfl) ?_
  refine yg_8_19 X hw dX8_goToPath_50 h (fun v2 rv2 h => ?_)
  refine k_if_ne hx hb rv2 dX8_goToPath_53 (tgt := 58) rfl h (fun h => ?_) (fun h => ?_)
  · refine lv_aload_n hx hb dX8_goToPath_58 rfl (lv_at hl 0 rfl) ?_
    refine yg_8_15 X hw dX8_goToPath_59 ?_
    refine lv_aload_n hx hb dX8_goToPath_62 rfl (lv_at hl 0 rfl) ?_
    refine yg_8_19 X hw dX8_goToPath_63 h (fun v3 rv3 h => ?_)
    refine lv_iconst hx hb dX8_goToPath_66 (v := jI 1) rfl ?_
    refine k_isub hx hb dX8_goToPath_67 h (fun r4 h => ?_)
    refine lv_iconst hx hb dX8_goToPath_68 (v := jI 1) rfl ?_
    refine yt_32 X hw r4 dX8_goToPath_69 h (fun H locs u hw h => ?_)
    refine lv_aload_n hx hb dX8_goToPath_70 rfl (lv_at hl 0 rfl) ?_
    refine yg_8_38 X hw dX8_goToPath_71 ?_
    refine lv_aload_n hx hb dX8_goToPath_74 rfl (lv_at hl 0 rfl) ?_
    refine yg_8_11 X hw dX8_goToPath_75 ?_
    refine lv_aload_n hx hb dX8_goToPath_78 rfl (lv_at hl 0 rfl) ?_
    refine yg_8_19 X hw dX8_goToPath_79 h (fun v5 rv5 h => ?_)
    refine lv_iconst hx hb dX8_goToPath_82 (v := jI 1) rfl ?_
    refine k_isub hx hb dX8_goToPath_83 h (fun r6 h => ?_)
    refine yl_31 X hw r6 dX8_goToPath_84 h (fun v7 rv7 h => ?_)
    refine lv_iconst hx hb dX8_goToPath_85 (v := jI 3) rfl ?_
    refine ycI (n := 2) (e_7_item rv7 (by decide) h) 7 6 (r := (RX7, TX7, 9)) rfl yG_8_50 yD_7_item X hw rfl yGo_7 (Nat.le_trans (Nat.le_of_ble_eq_true rfl) hRf) (Nat.le_trans (Nat.le_of_ble_eq_true rfl) hRl) rfl hl.1 (Nat.le_of_ble_eq_true rfl) rfl dX8_goToPath_86 (fun v8 u H locs rv8 h hw => ?_)
    refine lv_istore_n hx hb dX8_goToPath_89 rfl hl (by decide) rfl (fun ls hl => ?_)
    have hl : lv_has ls 3 [(2, .int (jI v8)), (0, .ref (ad 0 7))] := hl
    exact f_8_goToPath_90 X hRf hRl hret rv8 hw (lv_sub hl [1, 0] rfl) h
  · refine lv_iconst hx hb dX8_goToPath_56 (v := jI 0) rfl ?_
    exact hret _ _ _ _ _ _ h.1 h.2 hw dX8_goToPath_57

def v_8_goToPath_15b (R15 : iST → Prop) (Q : Int → iST → Prop) (u : iST) : Prop :=
  rd (u.1 33) (fun v1 => 
  br (v1 ≤ 0) (
    v_8_goToPath_49 Q u) (
    rd (u.1 33) (fun v16 => 
    ov (v16 - 1) (
    bd (v16 - 1) 64 (rz (u.2.1 32 (v16 - 1)) (fun v18 => 
    br (v18 = 0) (
      v_8_goToPath_49 Q u) (
      rd (u.1 33) (fun v19 => 
      ov (v19 - 1) (
      sw (iI u 33 (v19 - 1)) (fun u => 
      R15 u))))))))))
def v_8_goToPath_15 (Q : Int → iST → Prop) (u : iST) : Prop := ∀ R15 : iST → Prop, (∀ (u : iST), v_8_goToPath_15b R15 Q u → R15 u) → R15 u
set_option maxRecDepth 20000 in
set_option maxHeartbeats 4000000 in
theorem f_8_goToPath_15 (X : yX RX8 p m c cX8_goToPath 3 s args D ca ad A) (hRf : 1 ≤ R.frames) (hRl : 24 ≤ R.locals) {Q : Int → iST → Prop} (hret : ∀ (v : Int) (u : iST) (H : Heap) (locs : List Loc) (ls : Array Slot) (pc : Nat), bz v → Q v u → yW D ca A ad s H locs u → decode cX8_goToPath pc = .ok (.ireturn, 1) → W p l e R s m args below meth c H locs 0 0 Qf (F0 m pc ls [.int (jI v)])) (hw : yW D ca A ad s H locs u) (hl : lv_has ls 3 [(0, .ref (ad 0 7))]) (h : v_8_goToPath_15 Q u) : W p l e R s m args below meth c H locs 0 0 Qf (F0 m 15 ls []) := by
  refine h (fun u => ∀ (H : Heap) (locs : List Loc) (ls : Array Slot), yW D ca A ad s H locs u → lv_has ls 3 [(0, .ref (ad 0 7))] → W p l e R s m args below meth c H locs 0 0 Qf (F0 m 15 ls [])) ?_ H locs ls hw hl
  clear h hl hw
  intro u h H locs ls hw hl
  have hR15 : ∀ (u : iST) (H : Heap) (locs : List Loc) (ls : Array Slot), yW D ca A ad s H locs u → lv_has ls 3 [(0, .ref (ad 0 7))] → (fun u => ∀ (H : Heap) (locs : List Loc) (ls : Array Slot), yW D ca A ad s H locs u → lv_has ls 3 [(0, .ref (ad 0 7))] → W p l e R s m args below meth c H locs 0 0 Qf (F0 m 15 ls [])) u → W p l e R s m args below meth c H locs 0 0 Qf (F0 m 15 ls []) := fun u H locs ls hw hl h => h H locs ls hw hl
  have hx := X.1.1
  have hb := X.1.2.1
  unfold v_8_goToPath_15b at h
  refine lv_aload_n hx hb dX8_goToPath_15 rfl (lv_at hl 0 rfl) ?_
  refine yg_8_19 X hw dX8_goToPath_16 h (fun v1 rv1 h => ?_)
  refine k_if_le hx hb rv1 dX8_goToPath_19 (tgt := 49) rfl h (fun h => ?_) (fun h => ?_)
  · exact f_8_goToPath_49 X hRf hRl hret hw hl h
  · refine lv_aload_n hx hb dX8_goToPath_22 rfl (lv_at hl 0 rfl) ?_
    refine yg_8_15 X hw dX8_goToPath_23 ?_
    refine lv_aload_n hx hb dX8_goToPath_26 rfl (lv_at hl 0 rfl) ?_
    refine yg_8_19 X hw dX8_goToPath_27 h (fun v16 rv16 h => ?_)
    refine lv_iconst hx hb dX8_goToPath_30 (v := jI 1) rfl ?_
    refine k_isub hx hb dX8_goToPath_31 h (fun r17 h => ?_)
    refine yl_32 X hw r17 dX8_goToPath_32 h (fun v18 rv18 h => ?_)
    refine k_if_eq hx hb (bz_in rv18) dX8_goToPath_33 (tgt := 49) rfl h (fun h => ?_) (fun h => ?_)
    · exact f_8_goToPath_49 X hRf hRl hret hw hl h
    · refine lv_aload_n hx hb dX8_goToPath_36 rfl (lv_at hl 0 rfl) ?_
      refine lv_dup hx hb dX8_goToPath_37 rfl ?_
      refine yg_8_19 X hw dX8_goToPath_38 h (fun v19 rv19 h => ?_)
      refine lv_iconst hx hb dX8_goToPath_41 (v := jI 1) rfl ?_
      refine k_isub hx hb dX8_goToPath_42 h (fun r20 h => ?_)
      refine yp_8_19 X hw r20 dX8_goToPath_43 h (fun H locs u hw h => ?_)
      refine lv_goto hx hb dX8_goToPath_46 (tgt := 15) rfl ?_
      exact hR15 _ H locs ls hw hl h

def v_8_goToPath (a0 : Int) (Q : Int → iST → Prop) (u : iST) : Prop :=
  br (a0 = (-1)) (
    v_8_goToPath_15 Q u) (
    sw (iI u 33 0) (fun u => 
    v_8_goToPath_90 Q a0 u))
set_option maxRecDepth 20000 in
set_option maxHeartbeats 4000000 in
theorem f_8_goToPath_s (X : yX RX8 p m c cX8_goToPath 3 s args D ca ad A) (hRf : 1 ≤ R.frames) (hRl : 24 ≤ R.locals) {Q : Int → iST → Prop} (hret : ∀ (v : Int) (u : iST) (H : Heap) (locs : List Loc) (ls : Array Slot) (pc : Nat), bz v → Q v u → yW D ca A ad s H locs u → decode cX8_goToPath pc = .ok (.ireturn, 1) → W p l e R s m args below meth c H locs 0 0 Qf (F0 m pc ls [.int (jI v)])) {a0 : Int} (ra0 : inR a0) (hw : yW D ca A ad s H locs u) (hl : lv_has ls 3 [(0, .ref (ad 0 7)), (1, .int (jI a0))]) (h : v_8_goToPath a0 Q u) : W p l e R s m args below meth c H locs 0 0 Qf (F0 m 0 ls []) := by
  have hx := X.1.1
  have hb := X.1.2.1
  unfold v_8_goToPath at h
  refine lv_iload_n hx hb dX8_goToPath_0 rfl (lv_at hl 1 rfl) ?_
  refine lv_istore_n hx hb dX8_goToPath_1 rfl hl (by decide) rfl (fun ls hl => ?_)
  have hl : lv_has ls 3 [(2, .int (jI a0)), (0, .ref (ad 0 7)), (1, .int (jI a0))] := hl
  refine lv_iload_n hx hb dX8_goToPath_2 rfl (lv_at hl 2 rfl) ?_
  refine lv_iconst hx hb dX8_goToPath_3 (v := jI (-1)) rfl ?_
  refine k_icmp_eq hx hb ra0 (by decide) dX8_goToPath_4 (tgt := 15) rfl h (fun h => ?_) (fun h => ?_)
  · exact f_8_goToPath_15 X hRf hRl hret hw (lv_sub hl [1] rfl) h
  · refine lv_aload_n hx hb dX8_goToPath_7 rfl (lv_at hl 1 rfl) ?_
    refine lv_iconst hx hb dX8_goToPath_8 (v := jI 0) rfl ?_
    refine yp_8_19 X hw (by decide) dX8_goToPath_9 h (fun H locs u hw h => ?_)
    refine lv_goto hx hb dX8_goToPath_12 (tgt := 90) rfl ?_
    exact f_8_goToPath_90 X hRf hRl hret ra0 hw (lv_sub hl [1, 0] rfl) h

end
theorem e_8_goToPath {l : Launch} {a0 : Int} (ra0 : inR a0) {Q : Int → iST → Prop} {u : iST} (h : v_8_goToPath a0 Q u) : yMI l yX8_goToPath (.code yX8_goToPath cX8_goToPath 3 (some .boolean) :: wsN) { frames := 1, cells := 0, slots := 0, locals := 24 } (fun ad => [.ref (ad 0 7), .int (jI a0)]) Q u := yMZ_of (own := RX8) rfl (by decide +kernel) (fun _ => Nat.le_of_ble_eq_true rfl) (fun X hRf hRl hret hw hl => f_8_goToPath_s X hRf hRl hret ra0 hw hl h)

/-! ProofHouse$Schemes.countPaths -/
theorem dX8_countPaths_0 : decode cX8_countPaths 0 = .ok (.iconst 0, 1) := by decide +kernel
theorem dX8_countPaths_1 : decode cX8_countPaths 1 = .ok (.istore_n 2, 1) := by decide +kernel
theorem dX8_countPaths_2 : decode cX8_countPaths 2 = .ok (.aload_n 0, 1) := by decide +kernel
theorem dX8_countPaths_3 : decode cX8_countPaths 3 = .ok (.iload_n 1, 1) := by decide +kernel
theorem dX8_countPaths_4 : decode cX8_countPaths 4 = .ok (.invokevirtual 60, 3) := by decide +kernel
theorem dX8_countPaths_7 : decode cX8_countPaths 7 = .ok (.istore_n 3, 1) := by decide +kernel
theorem dX8_countPaths_8 : decode cX8_countPaths 8 = .ok (.iload_n 2, 1) := by decide +kernel
theorem dX8_countPaths_9 : decode cX8_countPaths 9 = .ok (.ldc 64, 2) := by decide +kernel
theorem dX8_countPaths_11 : decode cX8_countPaths 11 = .ok (.if_icmp .ge 19, 3) := by decide +kernel
theorem dX8_countPaths_14 : decode cX8_countPaths 14 = .ok (.iload_n 3, 1) := by decide +kernel
theorem dX8_countPaths_15 : decode cX8_countPaths 15 = .ok (.ifCond .eq 15, 3) := by decide +kernel
theorem dX8_countPaths_18 : decode cX8_countPaths 18 = .ok (.iinc 2 1, 3) := by decide +kernel
theorem dX8_countPaths_21 : decode cX8_countPaths 21 = .ok (.aload_n 0, 1) := by decide +kernel
theorem dX8_countPaths_22 : decode cX8_countPaths 22 = .ok (.iconst (-1), 1) := by decide +kernel
theorem dX8_countPaths_23 : decode cX8_countPaths 23 = .ok (.invokevirtual 60, 3) := by decide +kernel
theorem dX8_countPaths_26 : decode cX8_countPaths 26 = .ok (.istore_n 3, 1) := by decide +kernel
theorem dX8_countPaths_27 : decode cX8_countPaths 27 = .ok (.goto (-19), 3) := by decide +kernel
theorem dX8_countPaths_30 : decode cX8_countPaths 30 = .ok (.iload_n 2, 1) := by decide +kernel
theorem dX8_countPaths_31 : decode cX8_countPaths 31 = .ok (.ireturn, 1) := by decide +kernel

section
variable {p : Program} {l : Launch} {e : Env} {R : Room} {s : State} {m : MethodId} {args : Array Value} {below : List Frame} {meth : Method} {c : Code} {H : Heap} {locs : List Loc} {Qf : State → Prop}
variable {ls : Array Slot} {D : va_G} {ca : Nat → ClassId} {A : Nat → Prop} {ad : Nat → Nat → Nat} {u : iST}
def v_8_countPaths_8b (R8 : Int → Int → iST → Prop) (Q : Int → iST → Prop) (x2 : Int) (x3 : Int) (u : iST) : Prop :=
  br (1000000 ≤ x2) (
    Q x2 u) (
    br (x3 = 0) (
      Q x2 u) (
      ov (x2 + 1) (
      v_8_goToPath (-1) (fun v3 u => 
      R8 (x2 + 1) v3 u) u)))
def v_8_countPaths_8 (Q : Int → iST → Prop) (x2 : Int) (x3 : Int) (u : iST) : Prop := ∀ R8 : Int → Int → iST → Prop, (∀ (x2 : Int) (x3 : Int) (u : iST), v_8_countPaths_8b R8 Q x2 x3 u → R8 x2 x3 u) → R8 x2 x3 u
set_option maxRecDepth 20000 in
set_option maxHeartbeats 4000000 in
theorem f_8_countPaths_8 (X : yX RX8 p m c cX8_countPaths 4 s args D ca ad A) (hRf : 2 ≤ R.frames) (hRl : 46 ≤ R.locals) {Q : Int → iST → Prop} (hret : ∀ (v : Int) (u : iST) (H : Heap) (locs : List Loc) (ls : Array Slot) (pc : Nat), inR v → Q v u → yW D ca A ad s H locs u → decode cX8_countPaths pc = .ok (.ireturn, 1) → W p l e R s m args below meth c H locs 0 0 Qf (F0 m pc ls [.int (jI v)])) {x2 x3 : Int} (rx2 : inR x2) (rx3 : inR x3) (hw : yW D ca A ad s H locs u) (hl : lv_has ls 4 [(0, .ref (ad 0 7)), (2, .int (jI x2)), (3, .int (jI x3))]) (h : v_8_countPaths_8 Q x2 x3 u) : W p l e R s m args below meth c H locs 0 0 Qf (F0 m 8 ls []) := by
  refine h (fun x2 x3 u => ∀ (H : Heap) (locs : List Loc) (ls : Array Slot), inR x2 → inR x3 → yW D ca A ad s H locs u → lv_has ls 4 [(0, .ref (ad 0 7)), (2, .int (jI x2)), (3, .int (jI x3))] → W p l e R s m args below meth c H locs 0 0 Qf (F0 m 8 ls [])) ?_ H locs ls rx2 rx3 hw hl
  clear h hl hw rx2 rx3
  intro x2 x3 u h H locs ls rx2 rx3 hw hl
  have hR8 : ∀ (x2 : Int) (x3 : Int) (u : iST) (H : Heap) (locs : List Loc) (ls : Array Slot), inR x2 → inR x3 → yW D ca A ad s H locs u → lv_has ls 4 [(0, .ref (ad 0 7)), (2, .int (jI x2)), (3, .int (jI x3))] → (fun (x2 : Int) (x3 : Int) u => ∀ (H : Heap) (locs : List Loc) (ls : Array Slot), inR x2 → inR x3 → yW D ca A ad s H locs u → lv_has ls 4 [(0, .ref (ad 0 7)), (2, .int (jI x2)), (3, .int (jI x3))] → W p l e R s m args below meth c H locs 0 0 Qf (F0 m 8 ls [])) x2 x3 u → W p l e R s m args below meth c H locs 0 0 Qf (F0 m 8 ls []) := fun x2 x3 u H locs ls rx2 rx3 hw hl h => h H locs ls rx2 rx3 hw hl
  have hx := X.1.1
  have hb := X.1.2.1
  unfold v_8_countPaths_8b at h
  refine lv_iload_n hx hb dX8_countPaths_8 rfl (lv_at hl 1 rfl) ?_
  refine yld 64 yK_8_64 X dX8_countPaths_9 ?_
  refine k_icmp_ge hx hb rx2 (by decide) dX8_countPaths_11 (tgt := 30) rfl h (fun h => ?_) (fun h => ?_)
  · refine lv_iload_n hx hb dX8_countPaths_30 rfl (lv_at hl 1 rfl) ?_
    exact hret _ _ _ _ _ _ rx2 h hw dX8_countPaths_31
  · refine lv_iload_n hx hb dX8_countPaths_14 rfl (lv_at hl 2 rfl) ?_
    refine k_if_eq hx hb rx3 dX8_countPaths_15 (tgt := 30) rfl h (fun h => ?_) (fun h => ?_)
    · refine lv_iload_n hx hb dX8_countPaths_30 rfl (lv_at hl 1 rfl) ?_
      exact hret _ _ _ _ _ _ rx2 h hw dX8_countPaths_31
    · refine k_iinc (k := 1) hx hb dX8_countPaths_18 hl rfl (by decide) rfl h (fun ls r2 h hl => ?_)
      have hl : lv_has ls 4 [(2, .int (jI (x2 + 1))), (0, .ref (ad 0 7)), (3, .int (jI x3))] := hl
      refine lv_aload_n hx hb dX8_countPaths_21 rfl (lv_at hl 1 rfl) ?_
      refine lv_iconst hx hb dX8_countPaths_22 (v := jI (-1)) rfl ?_
      refine ycI (n := 1) (e_8_goToPath (by decide) h) 8 7 (r := (RX8, TX8, 11)) rfl yG_8_60 yD_8_goToPath X hw rfl yGo_8 (Nat.le_trans (Nat.le_of_ble_eq_true rfl) hRf) (Nat.le_trans (Nat.le_of_ble_eq_true rfl) hRl) rfl hl.1 (Nat.le_of_ble_eq_true rfl) rfl dX8_countPaths_23 (fun v3 u H locs rv3 h hw => ?_)
      refine lv_istore_n hx hb dX8_countPaths_26 rfl hl (by decide) rfl (fun ls hl => ?_)
      have hl : lv_has ls 4 [(3, .int (jI v3)), (2, .int (jI (x2 + 1))), (0, .ref (ad 0 7))] := hl
      refine lv_goto hx hb dX8_countPaths_27 (tgt := 8) rfl ?_
      exact hR8 _ _ _ H locs ls r2 rv3 hw (lv_sub hl [2, 1, 0] rfl) h

def v_8_countPaths (a0 : Int) (Q : Int → iST → Prop) (u : iST) : Prop :=
  v_8_goToPath a0 (fun v1 u => 
  v_8_countPaths_8 Q 0 v1 u) u
set_option maxRecDepth 20000 in
set_option maxHeartbeats 4000000 in
theorem f_8_countPaths_s (X : yX RX8 p m c cX8_countPaths 4 s args D ca ad A) (hRf : 2 ≤ R.frames) (hRl : 46 ≤ R.locals) {Q : Int → iST → Prop} (hret : ∀ (v : Int) (u : iST) (H : Heap) (locs : List Loc) (ls : Array Slot) (pc : Nat), inR v → Q v u → yW D ca A ad s H locs u → decode cX8_countPaths pc = .ok (.ireturn, 1) → W p l e R s m args below meth c H locs 0 0 Qf (F0 m pc ls [.int (jI v)])) {a0 : Int} (ra0 : inR a0) (hw : yW D ca A ad s H locs u) (hl : lv_has ls 4 [(0, .ref (ad 0 7)), (1, .int (jI a0))]) (h : v_8_countPaths a0 Q u) : W p l e R s m args below meth c H locs 0 0 Qf (F0 m 0 ls []) := by
  have hx := X.1.1
  have hb := X.1.2.1
  unfold v_8_countPaths at h
  refine lv_iconst hx hb dX8_countPaths_0 (v := jI 0) rfl ?_
  refine lv_istore_n hx hb dX8_countPaths_1 rfl hl (by decide) rfl (fun ls hl => ?_)
  have hl : lv_has ls 4 [(2, .int (jI 0)), (0, .ref (ad 0 7)), (1, .int (jI a0))] := hl
  refine lv_aload_n hx hb dX8_countPaths_2 rfl (lv_at hl 1 rfl) ?_
  refine lv_iload_n hx hb dX8_countPaths_3 rfl (lv_at hl 2 rfl) ?_
  refine ycI (n := 1) (e_8_goToPath ra0 h) 8 7 (r := (RX8, TX8, 11)) rfl yG_8_60 yD_8_goToPath X hw rfl yGo_8 (Nat.le_trans (Nat.le_of_ble_eq_true rfl) hRf) (Nat.le_trans (Nat.le_of_ble_eq_true rfl) hRl) rfl hl.1 (Nat.le_of_ble_eq_true rfl) rfl dX8_countPaths_4 (fun v1 u H locs rv1 h hw => ?_)
  refine lv_istore_n hx hb dX8_countPaths_7 rfl hl (by decide) rfl (fun ls hl => ?_)
  have hl : lv_has ls 4 [(3, .int (jI v1)), (2, .int (jI 0)), (0, .ref (ad 0 7)), (1, .int (jI a0))] := hl
  exact f_8_countPaths_8 X hRf hRl hret (by decide) rv1 hw (lv_sub hl [2, 1, 0] rfl) h

end
theorem e_8_countPaths {l : Launch} {a0 : Int} (ra0 : inR a0) {Q : Int → iST → Prop} {u : iST} (h : v_8_countPaths a0 Q u) : yMI l yX8_countPaths (.code yX8_countPaths cX8_countPaths 4 (some .int) :: wsN) { frames := 2, cells := 0, slots := 0, locals := 46 } (fun ad => [.ref (ad 0 7), .int (jI a0)]) Q u := yMI_of (own := RX8) rfl (by decide +kernel) (fun _ => Nat.le_of_ble_eq_true rfl) (fun X hRf hRl hret hw hl => f_8_countPaths_s X hRf hRl hret ra0 hw hl h)

/-! ProofHouse$Proofs.isInduction -/
theorem dX3_isInduction_0 : decode cX3_isInduction 0 = .ok (.aload_n 0, 1) := by decide +kernel
theorem dX3_isInduction_1 : decode cX3_isInduction 1 = .ok (.getfield 37, 3) := by decide +kernel
theorem dX3_isInduction_4 : decode cX3_isInduction 4 = .ok (.iload_n 1, 1) := by decide +kernel
theorem dX3_isInduction_5 : decode cX3_isInduction 5 = .ok (.iconst 2, 1) := by decide +kernel
theorem dX3_isInduction_6 : decode cX3_isInduction 6 = .ok (.invokevirtual 67, 3) := by decide +kernel
theorem dX3_isInduction_9 : decode cX3_isInduction 9 = .ok (.istore_n 2, 1) := by decide +kernel
theorem dX3_isInduction_10 : decode cX3_isInduction 10 = .ok (.aload_n 0, 1) := by decide +kernel
theorem dX3_isInduction_11 : decode cX3_isInduction 11 = .ok (.getfield 53, 3) := by decide +kernel
theorem dX3_isInduction_14 : decode cX3_isInduction 14 = .ok (.iload_n 2, 1) := by decide +kernel
theorem dX3_isInduction_15 : decode cX3_isInduction 15 = .ok (.invokevirtual 158, 3) := by decide +kernel
theorem dX3_isInduction_18 : decode cX3_isInduction 18 = .ok (.ifCond .eq 5, 3) := by decide +kernel
theorem dX3_isInduction_21 : decode cX3_isInduction 21 = .ok (.iconst 0, 1) := by decide +kernel
theorem dX3_isInduction_22 : decode cX3_isInduction 22 = .ok (.ireturn, 1) := by decide +kernel
theorem dX3_isInduction_23 : decode cX3_isInduction 23 = .ok (.aload_n 0, 1) := by decide +kernel
theorem dX3_isInduction_24 : decode cX3_isInduction 24 = .ok (.getfield 41, 3) := by decide +kernel
theorem dX3_isInduction_27 : decode cX3_isInduction 27 = .ok (.aload_n 0, 1) := by decide +kernel
theorem dX3_isInduction_28 : decode cX3_isInduction 28 = .ok (.getfield 37, 3) := by decide +kernel
theorem dX3_isInduction_31 : decode cX3_isInduction 31 = .ok (.iload_n 2, 1) := by decide +kernel
theorem dX3_isInduction_32 : decode cX3_isInduction 32 = .ok (.invokevirtual 89, 3) := by decide +kernel
theorem dX3_isInduction_35 : decode cX3_isInduction 35 = .ok (.invokevirtual 120, 3) := by decide +kernel
theorem dX3_isInduction_38 : decode cX3_isInduction 38 = .ok (.istore_n 3, 1) := by decide +kernel
theorem dX3_isInduction_39 : decode cX3_isInduction 39 = .ok (.aload_n 0, 1) := by decide +kernel
theorem dX3_isInduction_40 : decode cX3_isInduction 40 = .ok (.getfield 37, 3) := by decide +kernel
theorem dX3_isInduction_43 : decode cX3_isInduction 43 = .ok (.iload_n 1, 1) := by decide +kernel
theorem dX3_isInduction_44 : decode cX3_isInduction 44 = .ok (.invokevirtual 93, 3) := by decide +kernel
theorem dX3_isInduction_47 : decode cX3_isInduction 47 = .ok (.getstatic 96, 3) := by decide +kernel
theorem dX3_isInduction_50 : decode cX3_isInduction 50 = .ok (.bipush 15, 2) := by decide +kernel
theorem dX3_isInduction_52 : decode cX3_isInduction 52 = .ok (.iaload, 1) := by decide +kernel
theorem dX3_isInduction_53 : decode cX3_isInduction 53 = .ok (.isub, 1) := by decide +kernel
theorem dX3_isInduction_54 : decode cX3_isInduction 54 = .ok (.istore 4, 2) := by decide +kernel
theorem dX3_isInduction_56 : decode cX3_isInduction 56 = .ok (.iload_n 3, 1) := by decide +kernel
theorem dX3_isInduction_57 : decode cX3_isInduction 57 = .ok (.iconst (-1), 1) := by decide +kernel
theorem dX3_isInduction_58 : decode cX3_isInduction 58 = .ok (.if_icmp .eq 28, 3) := by decide +kernel
theorem dX3_isInduction_61 : decode cX3_isInduction 61 = .ok (.iload 4, 2) := by decide +kernel
theorem dX3_isInduction_63 : decode cX3_isInduction 63 = .ok (.aload_n 0, 1) := by decide +kernel
theorem dX3_isInduction_64 : decode cX3_isInduction 64 = .ok (.getfield 53, 3) := by decide +kernel
theorem dX3_isInduction_67 : decode cX3_isInduction 67 = .ok (.aload_n 0, 1) := by decide +kernel
theorem dX3_isInduction_68 : decode cX3_isInduction 68 = .ok (.getfield 41, 3) := by decide +kernel
theorem dX3_isInduction_71 : decode cX3_isInduction 71 = .ok (.getfield 163, 3) := by decide +kernel
theorem dX3_isInduction_74 : decode cX3_isInduction 74 = .ok (.iload_n 3, 1) := by decide +kernel
theorem dX3_isInduction_75 : decode cX3_isInduction 75 = .ok (.iaload, 1) := by decide +kernel
theorem dX3_isInduction_76 : decode cX3_isInduction 76 = .ok (.invokevirtual 166, 3) := by decide +kernel
theorem dX3_isInduction_79 : decode cX3_isInduction 79 = .ok (.if_icmp .ne 7, 3) := by decide +kernel
theorem dX3_isInduction_82 : decode cX3_isInduction 82 = .ok (.iconst 1, 1) := by decide +kernel
theorem dX3_isInduction_83 : decode cX3_isInduction 83 = .ok (.goto 4, 3) := by decide +kernel
theorem dX3_isInduction_86 : decode cX3_isInduction 86 = .ok (.iconst 0, 1) := by decide +kernel
theorem dX3_isInduction_87 : decode cX3_isInduction 87 = .ok (.ireturn, 1) := by decide +kernel

section
variable {p : Program} {l : Launch} {e : Env} {R : Room} {s : State} {m : MethodId} {args : Array Value} {below : List Frame} {meth : Method} {c : Code} {H : Heap} {locs : List Loc} {Qf : State → Prop}
variable {ls : Array Slot} {D : va_G} {ca : Nat → ClassId} {A : Nat → Prop} {ad : Nat → Nat → Nat} {u : iST}
def v_3_isInduction (a0 : Int) (Q : Int → iST → Prop) (u : iST) : Prop :=
  v_7_item a0 2 (fun v1 u => 
  v_8_inductionAsked v1 (fun v2 u => 
  br (v2 = 0) (
    v_7_left v1 (fun v3 u => 
    v_0_functionOf v3 (fun v4 u => 
    v_7_lengthOf a0 (fun v5 u => 
    bd 15 16 (rd (yT_LENGTHS.getD (15 : Int).toNat 0) (fun v6 => 
    ov (v5 - v6) (
    br (v4 = (-1)) (
      zt 0 (Q 0 u)) (
      bd v4 40 (rd (u.2.1 3 v4) (fun v8 => 
      v_8_countPaths v8 (fun v9 u => 
      br ((v5 - v6) ≠ v9) (
        zt 0 (Q 0 u)) (
        zt 1 (Q 1 u))) u))))))) u) u) u) (
    zt 0 (Q 0 u))) u) u
set_option maxRecDepth 20000 in
set_option maxHeartbeats 4000000 in
theorem f_3_isInduction_s (X : yX RX3 p m c cX3_isInduction 5 s args D ca ad A) (hRf : 3 ≤ R.frames) (hRl : 69 ≤ R.locals) {Q : Int → iST → Prop} (hret : ∀ (v : Int) (u : iST) (H : Heap) (locs : List Loc) (ls : Array Slot) (pc : Nat), bz v → Q v u → yW D ca A ad s H locs u → decode cX3_isInduction pc = .ok (.ireturn, 1) → W p l e R s m args below meth c H locs 0 0 Qf (F0 m pc ls [.int (jI v)])) {a0 : Int} (ra0 : inR a0) (hw : yW D ca A ad s H locs u) (hl : lv_has ls 5 [(0, .ref (ad 0 2)), (1, .int (jI a0))]) (h : v_3_isInduction a0 Q u) : W p l e R s m args below meth c H locs 0 0 Qf (F0 m 0 ls []) := by
  have hx := X.1.1
  have hb := X.1.2.1
  unfold v_3_isInduction at h
  refine lv_aload_n hx hb dX3_isInduction_0 rfl (lv_at hl 0 rfl) ?_
  refine yg_3_37 X hw dX3_isInduction_1 ?_
  refine lv_iload_n hx hb dX3_isInduction_4 rfl (lv_at hl 1 rfl) ?_
  refine lv_iconst hx hb dX3_isInduction_5 (v := jI 2) rfl ?_
  refine ycI (n := 2) (e_7_item ra0 (by decide) h) 7 6 (r := (RX7, TX7, 9)) rfl yG_3_67 yD_7_item X hw rfl yGo_7 (Nat.le_trans (Nat.le_of_ble_eq_true rfl) hRf) (Nat.le_trans (Nat.le_of_ble_eq_true rfl) hRl) rfl hl.1 (Nat.le_of_ble_eq_true rfl) rfl dX3_isInduction_6 (fun v1 u H locs rv1 h hw => ?_)
  refine lv_istore_n hx hb dX3_isInduction_9 rfl hl (by decide) rfl (fun ls hl => ?_)
  have hl : lv_has ls 5 [(2, .int (jI v1)), (0, .ref (ad 0 2)), (1, .int (jI a0))] := hl
  refine lv_aload_n hx hb dX3_isInduction_10 rfl (lv_at hl 1 rfl) ?_
  refine yg_3_53 X hw dX3_isInduction_11 ?_
  refine lv_iload_n hx hb dX3_isInduction_14 rfl (lv_at hl 0 rfl) ?_
  refine ycI (n := 1) (e_8_inductionAsked rv1 h) 8 7 (r := (RX8, TX8, 11)) rfl yG_3_158 yD_8_inductionAsked X hw rfl yGo_8 (Nat.le_trans (Nat.le_of_ble_eq_true rfl) hRf) (Nat.le_trans (Nat.le_of_ble_eq_true rfl) hRl) rfl hl.1 (Nat.le_of_ble_eq_true rfl) rfl dX3_isInduction_15 (fun v2 u H locs rv2 h hw => ?_)
  refine k_if_eq hx hb rv2 dX3_isInduction_18 (tgt := 23) rfl h (fun h => ?_) (fun h => ?_)
  · refine lv_aload_n hx hb dX3_isInduction_23 rfl (lv_at hl 1 rfl) ?_
    refine yg_3_41 X hw dX3_isInduction_24 ?_
    refine lv_aload_n hx hb dX3_isInduction_27 rfl (lv_at hl 1 rfl) ?_
    refine yg_3_37 X hw dX3_isInduction_28 ?_
    refine lv_iload_n hx hb dX3_isInduction_31 rfl (lv_at hl 0 rfl) ?_
    refine ycI (n := 1) (e_7_left rv1 h) 7 6 (r := (RX7, TX7, 9)) rfl yG_3_89 yD_7_left X hw rfl yGo_7 (Nat.le_trans (Nat.le_of_ble_eq_true rfl) hRf) (Nat.le_trans (Nat.le_of_ble_eq_true rfl) hRl) rfl hl.1 (Nat.le_of_ble_eq_true rfl) rfl dX3_isInduction_32 (fun v3 u H locs rv3 h hw => ?_)
    refine ycI (n := 1) (e_0_functionOf rv3 h) 0 0 (r := (RX0, TX0, 21)) rfl yG_3_120 yD_0_functionOf X hw rfl yGo_0 (Nat.le_trans (Nat.le_of_ble_eq_true rfl) hRf) (Nat.le_trans (Nat.le_of_ble_eq_true rfl) hRl) rfl hl.1 (Nat.le_of_ble_eq_true rfl) rfl dX3_isInduction_35 (fun v4 u H locs rv4 h hw => ?_)
    refine lv_istore_n hx hb dX3_isInduction_38 rfl hl (by decide) rfl (fun ls hl => ?_)
    have hl : lv_has ls 5 [(3, .int (jI v4)), (2, .int (jI v1)), (0, .ref (ad 0 2)), (1, .int (jI a0))] := hl
    refine lv_aload_n hx hb dX3_isInduction_39 rfl (lv_at hl 2 rfl) ?_
    refine yg_3_37 X hw dX3_isInduction_40 ?_
    refine lv_iload_n hx hb dX3_isInduction_43 rfl (lv_at hl 3 rfl) ?_
    refine ycI (n := 1) (e_7_lengthOf ra0 h) 7 6 (r := (RX7, TX7, 9)) rfl yG_3_93 yD_7_lengthOf X hw rfl yGo_7 (Nat.le_trans (Nat.le_of_ble_eq_true rfl) hRf) (Nat.le_trans (Nat.le_of_ble_eq_true rfl) hRl) rfl hl.1 (Nat.le_of_ble_eq_true rfl) rfl dX3_isInduction_44 (fun v5 u H locs rv5 h hw => ?_)
    refine ys_3_96 X hw dX3_isInduction_47 ?_
    refine lv_bipush hx hb dX3_isInduction_50 (v := jI 15) rfl ?_
    refine yst_1 X hw (by decide) dX3_isInduction_52 h (fun v6 rv6 h => ?_)
    refine k_isub hx hb dX3_isInduction_53 h (fun r7 h => ?_)
    refine lv_istore hx hb dX3_isInduction_54 hl (by decide) rfl (fun ls hl => ?_)
    have hl : lv_has ls 5 [(4, .int (jI (v5 - v6))), (3, .int (jI v4)), (2, .int (jI v1)), (0, .ref (ad 0 2)), (1, .int (jI a0))] := hl
    refine lv_iload_n hx hb dX3_isInduction_56 rfl (lv_at hl 1 rfl) ?_
    refine lv_iconst hx hb dX3_isInduction_57 (v := jI (-1)) rfl ?_
    refine k_icmp_eq hx hb rv4 (by decide) dX3_isInduction_58 (tgt := 86) rfl h (fun h => ?_) (fun h => ?_)
    · refine lv_iconst hx hb dX3_isInduction_86 (v := jI 0) rfl ?_
      exact hret _ _ _ _ _ _ h.1 h.2 hw dX3_isInduction_87
    · refine lv_iload hx hb dX3_isInduction_61 (lv_at hl 0 rfl) ?_
      refine lv_aload_n hx hb dX3_isInduction_63 rfl (lv_at hl 3 rfl) ?_
      refine yg_3_53 X hw dX3_isInduction_64 ?_
      refine lv_aload_n hx hb dX3_isInduction_67 rfl (lv_at hl 3 rfl) ?_
      refine yg_3_41 X hw dX3_isInduction_68 ?_
      refine yg_3_163 X hw dX3_isInduction_71 ?_
      refine lv_iload_n hx hb dX3_isInduction_74 rfl (lv_at hl 1 rfl) ?_
      refine yl_3 X hw rv4 dX3_isInduction_75 h (fun v8 rv8 h => ?_)
      refine ycI (n := 1) (e_8_countPaths rv8 h) 8 7 (r := (RX8, TX8, 11)) rfl yG_3_166 yD_8_countPaths X hw rfl yGo_8 (Nat.le_trans (Nat.le_of_ble_eq_true rfl) hRf) (Nat.le_trans (Nat.le_of_ble_eq_true rfl) hRl) rfl hl.1 (Nat.le_of_ble_eq_true rfl) rfl dX3_isInduction_76 (fun v9 u H locs rv9 h hw => ?_)
      refine k_icmp_ne hx hb r7 rv9 dX3_isInduction_79 (tgt := 86) rfl h (fun h => ?_) (fun h => ?_)
      · refine lv_iconst hx hb dX3_isInduction_86 (v := jI 0) rfl ?_
        exact hret _ _ _ _ _ _ h.1 h.2 hw dX3_isInduction_87
      · refine lv_iconst hx hb dX3_isInduction_82 (v := jI 1) rfl ?_
        refine lv_goto hx hb dX3_isInduction_83 (tgt := 87) rfl ?_
        exact hret _ _ _ _ _ _ h.1 h.2 hw dX3_isInduction_87
  · refine lv_iconst hx hb dX3_isInduction_21 (v := jI 0) rfl ?_
    exact hret _ _ _ _ _ _ h.1 h.2 hw dX3_isInduction_22

end
theorem e_3_isInduction {l : Launch} {a0 : Int} (ra0 : inR a0) {Q : Int → iST → Prop} {u : iST} (h : v_3_isInduction a0 Q u) : yMI l yX3_isInduction (.code yX3_isInduction cX3_isInduction 5 (some .boolean) :: wsN) { frames := 3, cells := 0, slots := 0, locals := 69 } (fun ad => [.ref (ad 0 2), .int (jI a0)]) Q u := yMZ_of (own := RX3) rfl (by decide +kernel) (fun _ => Nat.le_of_ble_eq_true rfl) (fun X hRf hRl hret hw hl => f_3_isInduction_s X hRf hRl hret ra0 hw hl h)

/-! ProofHouse$Proofs.isWholeFormed -/
theorem dX3_isWholeFormed_0 : decode cX3_isWholeFormed 0 = .ok (.aload_n 0, 1) := by decide +kernel
theorem dX3_isWholeFormed_1 : decode cX3_isWholeFormed 1 = .ok (.getfield 37, 3) := by decide +kernel
theorem dX3_isWholeFormed_4 : decode cX3_isWholeFormed 4 = .ok (.iload_n 1, 1) := by decide +kernel
theorem dX3_isWholeFormed_5 : decode cX3_isWholeFormed 5 = .ok (.invokevirtual 89, 3) := by decide +kernel
theorem dX3_isWholeFormed_8 : decode cX3_isWholeFormed 8 = .ok (.tableswitch 182 30 43 #[72, 182, 182, 182, 182, 182, 87, 113, 139, 182, 153, 182, 182, 176], 72) := by decide +kernel
theorem dX3_isWholeFormed_80 : decode cX3_isWholeFormed 80 = .ok (.aload_n 0, 1) := by decide +kernel
theorem dX3_isWholeFormed_81 : decode cX3_isWholeFormed 81 = .ok (.iload_n 1, 1) := by decide +kernel
theorem dX3_isWholeFormed_82 : decode cX3_isWholeFormed 82 = .ok (.invokevirtual 117, 3) := by decide +kernel
theorem dX3_isWholeFormed_85 : decode cX3_isWholeFormed 85 = .ok (.iconst (-1), 1) := by decide +kernel
theorem dX3_isWholeFormed_86 : decode cX3_isWholeFormed 86 = .ok (.if_icmp .eq 7, 3) := by decide +kernel
theorem dX3_isWholeFormed_89 : decode cX3_isWholeFormed 89 = .ok (.iconst 1, 1) := by decide +kernel
theorem dX3_isWholeFormed_90 : decode cX3_isWholeFormed 90 = .ok (.goto 4, 3) := by decide +kernel
theorem dX3_isWholeFormed_93 : decode cX3_isWholeFormed 93 = .ok (.iconst 0, 1) := by decide +kernel
theorem dX3_isWholeFormed_94 : decode cX3_isWholeFormed 94 = .ok (.ireturn, 1) := by decide +kernel
theorem dX3_isWholeFormed_95 : decode cX3_isWholeFormed 95 = .ok (.aload_n 0, 1) := by decide +kernel
theorem dX3_isWholeFormed_96 : decode cX3_isWholeFormed 96 = .ok (.getfield 41, 3) := by decide +kernel
theorem dX3_isWholeFormed_99 : decode cX3_isWholeFormed 99 = .ok (.aload_n 0, 1) := by decide +kernel
theorem dX3_isWholeFormed_100 : decode cX3_isWholeFormed 100 = .ok (.getfield 37, 3) := by decide +kernel
theorem dX3_isWholeFormed_103 : decode cX3_isWholeFormed 103 = .ok (.iload_n 1, 1) := by decide +kernel
theorem dX3_isWholeFormed_104 : decode cX3_isWholeFormed 104 = .ok (.iconst 1, 1) := by decide +kernel
theorem dX3_isWholeFormed_105 : decode cX3_isWholeFormed 105 = .ok (.invokevirtual 67, 3) := by decide +kernel
theorem dX3_isWholeFormed_108 : decode cX3_isWholeFormed 108 = .ok (.invokevirtual 120, 3) := by decide +kernel
theorem dX3_isWholeFormed_111 : decode cX3_isWholeFormed 111 = .ok (.iconst (-1), 1) := by decide +kernel
theorem dX3_isWholeFormed_112 : decode cX3_isWholeFormed 112 = .ok (.if_icmp .eq 7, 3) := by decide +kernel
theorem dX3_isWholeFormed_115 : decode cX3_isWholeFormed 115 = .ok (.iconst 1, 1) := by decide +kernel
theorem dX3_isWholeFormed_116 : decode cX3_isWholeFormed 116 = .ok (.goto 4, 3) := by decide +kernel
theorem dX3_isWholeFormed_119 : decode cX3_isWholeFormed 119 = .ok (.iconst 0, 1) := by decide +kernel
theorem dX3_isWholeFormed_120 : decode cX3_isWholeFormed 120 = .ok (.ireturn, 1) := by decide +kernel
theorem dX3_isWholeFormed_121 : decode cX3_isWholeFormed 121 = .ok (.aload_n 0, 1) := by decide +kernel
theorem dX3_isWholeFormed_122 : decode cX3_isWholeFormed 122 = .ok (.getfield 41, 3) := by decide +kernel
theorem dX3_isWholeFormed_125 : decode cX3_isWholeFormed 125 = .ok (.aload_n 0, 1) := by decide +kernel
theorem dX3_isWholeFormed_126 : decode cX3_isWholeFormed 126 = .ok (.getfield 37, 3) := by decide +kernel
theorem dX3_isWholeFormed_129 : decode cX3_isWholeFormed 129 = .ok (.iload_n 1, 1) := by decide +kernel
theorem dX3_isWholeFormed_130 : decode cX3_isWholeFormed 130 = .ok (.iconst 1, 1) := by decide +kernel
theorem dX3_isWholeFormed_131 : decode cX3_isWholeFormed 131 = .ok (.invokevirtual 67, 3) := by decide +kernel
theorem dX3_isWholeFormed_134 : decode cX3_isWholeFormed 134 = .ok (.invokevirtual 125, 3) := by decide +kernel
theorem dX3_isWholeFormed_137 : decode cX3_isWholeFormed 137 = .ok (.iconst (-1), 1) := by decide +kernel
theorem dX3_isWholeFormed_138 : decode cX3_isWholeFormed 138 = .ok (.if_icmp .eq 7, 3) := by decide +kernel
theorem dX3_isWholeFormed_141 : decode cX3_isWholeFormed 141 = .ok (.iconst 1, 1) := by decide +kernel
theorem dX3_isWholeFormed_142 : decode cX3_isWholeFormed 142 = .ok (.goto 4, 3) := by decide +kernel
theorem dX3_isWholeFormed_145 : decode cX3_isWholeFormed 145 = .ok (.iconst 0, 1) := by decide +kernel
theorem dX3_isWholeFormed_146 : decode cX3_isWholeFormed 146 = .ok (.ireturn, 1) := by decide +kernel
theorem dX3_isWholeFormed_147 : decode cX3_isWholeFormed 147 = .ok (.aload_n 0, 1) := by decide +kernel
theorem dX3_isWholeFormed_148 : decode cX3_isWholeFormed 148 = .ok (.aload_n 0, 1) := by decide +kernel
theorem dX3_isWholeFormed_149 : decode cX3_isWholeFormed 149 = .ok (.getfield 37, 3) := by decide +kernel
theorem dX3_isWholeFormed_152 : decode cX3_isWholeFormed 152 = .ok (.iload_n 1, 1) := by decide +kernel
theorem dX3_isWholeFormed_153 : decode cX3_isWholeFormed 153 = .ok (.iconst 1, 1) := by decide +kernel
theorem dX3_isWholeFormed_154 : decode cX3_isWholeFormed 154 = .ok (.invokevirtual 67, 3) := by decide +kernel
theorem dX3_isWholeFormed_157 : decode cX3_isWholeFormed 157 = .ok (.invokevirtual 128, 3) := by decide +kernel
theorem dX3_isWholeFormed_160 : decode cX3_isWholeFormed 160 = .ok (.ireturn, 1) := by decide +kernel
theorem dX3_isWholeFormed_161 : decode cX3_isWholeFormed 161 = .ok (.aload_n 0, 1) := by decide +kernel
theorem dX3_isWholeFormed_162 : decode cX3_isWholeFormed 162 = .ok (.getfield 45, 3) := by decide +kernel
theorem dX3_isWholeFormed_165 : decode cX3_isWholeFormed 165 = .ok (.aload_n 0, 1) := by decide +kernel
theorem dX3_isWholeFormed_166 : decode cX3_isWholeFormed 166 = .ok (.getfield 37, 3) := by decide +kernel
theorem dX3_isWholeFormed_169 : decode cX3_isWholeFormed 169 = .ok (.aload_n 0, 1) := by decide +kernel
theorem dX3_isWholeFormed_170 : decode cX3_isWholeFormed 170 = .ok (.getfield 37, 3) := by decide +kernel
theorem dX3_isWholeFormed_173 : decode cX3_isWholeFormed 173 = .ok (.iload_n 1, 1) := by decide +kernel
theorem dX3_isWholeFormed_174 : decode cX3_isWholeFormed 174 = .ok (.invokevirtual 131, 3) := by decide +kernel
theorem dX3_isWholeFormed_177 : decode cX3_isWholeFormed 177 = .ok (.invokevirtual 131, 3) := by decide +kernel
theorem dX3_isWholeFormed_180 : decode cX3_isWholeFormed 180 = .ok (.invokevirtual 134, 3) := by decide +kernel
theorem dX3_isWholeFormed_183 : decode cX3_isWholeFormed 183 = .ok (.ireturn, 1) := by decide +kernel
theorem dX3_isWholeFormed_184 : decode cX3_isWholeFormed 184 = .ok (.aload_n 0, 1) := by decide +kernel
theorem dX3_isWholeFormed_185 : decode cX3_isWholeFormed 185 = .ok (.iload_n 1, 1) := by decide +kernel
theorem dX3_isWholeFormed_186 : decode cX3_isWholeFormed 186 = .ok (.invokevirtual 137, 3) := by decide +kernel
theorem dX3_isWholeFormed_189 : decode cX3_isWholeFormed 189 = .ok (.ireturn, 1) := by decide +kernel
theorem dX3_isWholeFormed_190 : decode cX3_isWholeFormed 190 = .ok (.iconst 1, 1) := by decide +kernel
theorem dX3_isWholeFormed_191 : decode cX3_isWholeFormed 191 = .ok (.ireturn, 1) := by decide +kernel

section
variable {p : Program} {l : Launch} {e : Env} {R : Room} {s : State} {m : MethodId} {args : Array Value} {below : List Frame} {meth : Method} {c : Code} {H : Heap} {locs : List Loc} {Qf : State → Prop}
variable {ls : Array Slot} {D : va_G} {ca : Nat → ClassId} {A : Nat → Prop} {ad : Nat → Nat → Nat} {u : iST}
def v_3_isWholeFormed (a0 : Int) (Q : Int → iST → Prop) (u : iST) : Prop :=
  v_7_left a0 (fun v1 u => 
  br (v1 = 30) (
    v_3_valueAt a0 (fun v2 u => 
    br (v2 = (-1)) (
      zt 0 (Q 0 u)) (
      zt 1 (Q 1 u))) u) (
  br (v1 = 31) (
    zt 1 (Q 1 u)) (
  br (v1 = 32) (
    zt 1 (Q 1 u)) (
  br (v1 = 33) (
    zt 1 (Q 1 u)) (
  br (v1 = 34) (
    zt 1 (Q 1 u)) (
  br (v1 = 35) (
    zt 1 (Q 1 u)) (
  br (v1 = 36) (
    v_7_item a0 1 (fun v9 u => 
    v_0_functionOf v9 (fun v10 u => 
    br (v10 = (-1)) (
      zt 0 (Q 0 u)) (
      zt 1 (Q 1 u))) u) u) (
  br (v1 = 37) (
    v_7_item a0 1 (fun v12 u => 
    v_0_theoremOf v12 (fun v13 u => 
    br (v13 = (-1)) (
      zt 0 (Q 0 u)) (
      zt 1 (Q 1 u))) u) u) (
  br (v1 = 38) (
    v_7_item a0 1 (fun v15 u => 
    v_3_isListOfTerms v15 (fun v16 u => 
    zt v16 (Q v16 u)) u) u) (
  br (v1 = 39) (
    zt 1 (Q 1 u)) (
  br (v1 = 40) (
    v_7_right a0 (fun v19 u => 
    v_7_right v19 (fun v20 u => 
    v_10_bindPairs v20 (fun v21 u => 
    zt v21 (Q v21 u)) u) u) u) (
  br (v1 = 41) (
    zt 1 (Q 1 u)) (
  br (v1 = 42) (
    zt 1 (Q 1 u)) (
  br (v1 = 43) (
    v_3_isInduction a0 (fun v25 u => 
    zt v25 (Q v25 u)) u) (
  zt 1 (Q 1 u)))))))))))))))) u
set_option maxRecDepth 20000 in
set_option maxHeartbeats 4000000 in
theorem f_3_isWholeFormed_s (X : yX RX3 p m c cX3_isWholeFormed 2 s args D ca ad A) (hRf : 4 ≤ R.frames) (hRl : 100 ≤ R.locals) {Q : Int → iST → Prop} (hret : ∀ (v : Int) (u : iST) (H : Heap) (locs : List Loc) (ls : Array Slot) (pc : Nat), bz v → Q v u → yW D ca A ad s H locs u → decode cX3_isWholeFormed pc = .ok (.ireturn, 1) → W p l e R s m args below meth c H locs 0 0 Qf (F0 m pc ls [.int (jI v)])) {a0 : Int} (ra0 : inR a0) (hw : yW D ca A ad s H locs u) (hl : lv_has ls 2 [(0, .ref (ad 0 2)), (1, .int (jI a0))]) (h : v_3_isWholeFormed a0 Q u) : W p l e R s m args below meth c H locs 0 0 Qf (F0 m 0 ls []) := by
  have hx := X.1.1
  have hb := X.1.2.1
  unfold v_3_isWholeFormed at h
  refine lv_aload_n hx hb dX3_isWholeFormed_0 rfl (lv_at hl 0 rfl) ?_
  refine yg_3_37 X hw dX3_isWholeFormed_1 ?_
  refine lv_iload_n hx hb dX3_isWholeFormed_4 rfl (lv_at hl 1 rfl) ?_
  refine ycI (n := 1) (e_7_left ra0 h) 7 6 (r := (RX7, TX7, 9)) rfl yG_3_89 yD_7_left X hw rfl yGo_7 (Nat.le_trans (Nat.le_of_ble_eq_true rfl) hRf) (Nat.le_trans (Nat.le_of_ble_eq_true rfl) hRl) rfl hl.1 (Nat.le_of_ble_eq_true rfl) rfl dX3_isWholeFormed_5 (fun v1 u H locs rv1 h hw => ?_)
  refine br_sp h (fun ek h => ?_) (fun n3 h => ?_)
  · refine k_tabIn (tgt := 80) (off := 72) hx hb dX3_isWholeFormed_8 ek (by decide) (by decide) rfl rfl ?_
    refine lv_aload_n hx hb dX3_isWholeFormed_80 rfl (lv_at hl 0 rfl) ?_
    refine lv_iload_n hx hb dX3_isWholeFormed_81 rfl (lv_at hl 1 rfl) ?_
    refine ycI (n := 1) (e_3_valueAt ra0 h) 3 2 (r := (RX3, TX3, 11)) rfl yG_3_117 yD_3_valueAt X hw rfl yGo_3 (Nat.le_trans (Nat.le_of_ble_eq_true rfl) hRf) (Nat.le_trans (Nat.le_of_ble_eq_true rfl) hRl) rfl hl.1 (Nat.le_of_ble_eq_true rfl) rfl dX3_isWholeFormed_82 (fun v2 u H locs rv2 h hw => ?_)
    refine lv_iconst hx hb dX3_isWholeFormed_85 (v := jI (-1)) rfl ?_
    refine k_icmp_eq hx hb rv2 (by decide) dX3_isWholeFormed_86 (tgt := 93) rfl h (fun h => ?_) (fun h => ?_)
    · refine lv_iconst hx hb dX3_isWholeFormed_93 (v := jI 0) rfl ?_
      exact hret _ _ _ _ _ _ h.1 h.2 hw dX3_isWholeFormed_94
    · refine lv_iconst hx hb dX3_isWholeFormed_89 (v := jI 1) rfl ?_
      refine lv_goto hx hb dX3_isWholeFormed_90 (tgt := 94) rfl ?_
      exact hret _ _ _ _ _ _ h.1 h.2 hw dX3_isWholeFormed_94
  refine br_sp h (fun ek h => ?_) (fun n4 h => ?_)
  · refine k_tabIn (tgt := 190) (off := 182) hx hb dX3_isWholeFormed_8 ek (by decide) (by decide) rfl rfl ?_
    refine lv_iconst hx hb dX3_isWholeFormed_190 (v := jI 1) rfl ?_
    exact hret _ _ _ _ _ _ h.1 h.2 hw dX3_isWholeFormed_191
  refine br_sp h (fun ek h => ?_) (fun n5 h => ?_)
  · refine k_tabIn (tgt := 190) (off := 182) hx hb dX3_isWholeFormed_8 ek (by decide) (by decide) rfl rfl ?_
    refine lv_iconst hx hb dX3_isWholeFormed_190 (v := jI 1) rfl ?_
    exact hret _ _ _ _ _ _ h.1 h.2 hw dX3_isWholeFormed_191
  refine br_sp h (fun ek h => ?_) (fun n6 h => ?_)
  · refine k_tabIn (tgt := 190) (off := 182) hx hb dX3_isWholeFormed_8 ek (by decide) (by decide) rfl rfl ?_
    refine lv_iconst hx hb dX3_isWholeFormed_190 (v := jI 1) rfl ?_
    exact hret _ _ _ _ _ _ h.1 h.2 hw dX3_isWholeFormed_191
  refine br_sp h (fun ek h => ?_) (fun n7 h => ?_)
  · refine k_tabIn (tgt := 190) (off := 182) hx hb dX3_isWholeFormed_8 ek (by decide) (by decide) rfl rfl ?_
    refine lv_iconst hx hb dX3_isWholeFormed_190 (v := jI 1) rfl ?_
    exact hret _ _ _ _ _ _ h.1 h.2 hw dX3_isWholeFormed_191
  refine br_sp h (fun ek h => ?_) (fun n8 h => ?_)
  · refine k_tabIn (tgt := 190) (off := 182) hx hb dX3_isWholeFormed_8 ek (by decide) (by decide) rfl rfl ?_
    refine lv_iconst hx hb dX3_isWholeFormed_190 (v := jI 1) rfl ?_
    exact hret _ _ _ _ _ _ h.1 h.2 hw dX3_isWholeFormed_191
  refine br_sp h (fun ek h => ?_) (fun n11 h => ?_)
  · refine k_tabIn (tgt := 95) (off := 87) hx hb dX3_isWholeFormed_8 ek (by decide) (by decide) rfl rfl ?_
    refine lv_aload_n hx hb dX3_isWholeFormed_95 rfl (lv_at hl 0 rfl) ?_
    refine yg_3_41 X hw dX3_isWholeFormed_96 ?_
    refine lv_aload_n hx hb dX3_isWholeFormed_99 rfl (lv_at hl 0 rfl) ?_
    refine yg_3_37 X hw dX3_isWholeFormed_100 ?_
    refine lv_iload_n hx hb dX3_isWholeFormed_103 rfl (lv_at hl 1 rfl) ?_
    refine lv_iconst hx hb dX3_isWholeFormed_104 (v := jI 1) rfl ?_
    refine ycI (n := 2) (e_7_item ra0 (by decide) h) 7 6 (r := (RX7, TX7, 9)) rfl yG_3_67 yD_7_item X hw rfl yGo_7 (Nat.le_trans (Nat.le_of_ble_eq_true rfl) hRf) (Nat.le_trans (Nat.le_of_ble_eq_true rfl) hRl) rfl hl.1 (Nat.le_of_ble_eq_true rfl) rfl dX3_isWholeFormed_105 (fun v9 u H locs rv9 h hw => ?_)
    refine ycI (n := 1) (e_0_functionOf rv9 h) 0 0 (r := (RX0, TX0, 21)) rfl yG_3_120 yD_0_functionOf X hw rfl yGo_0 (Nat.le_trans (Nat.le_of_ble_eq_true rfl) hRf) (Nat.le_trans (Nat.le_of_ble_eq_true rfl) hRl) rfl hl.1 (Nat.le_of_ble_eq_true rfl) rfl dX3_isWholeFormed_108 (fun v10 u H locs rv10 h hw => ?_)
    refine lv_iconst hx hb dX3_isWholeFormed_111 (v := jI (-1)) rfl ?_
    refine k_icmp_eq hx hb rv10 (by decide) dX3_isWholeFormed_112 (tgt := 119) rfl h (fun h => ?_) (fun h => ?_)
    · refine lv_iconst hx hb dX3_isWholeFormed_119 (v := jI 0) rfl ?_
      exact hret _ _ _ _ _ _ h.1 h.2 hw dX3_isWholeFormed_120
    · refine lv_iconst hx hb dX3_isWholeFormed_115 (v := jI 1) rfl ?_
      refine lv_goto hx hb dX3_isWholeFormed_116 (tgt := 120) rfl ?_
      exact hret _ _ _ _ _ _ h.1 h.2 hw dX3_isWholeFormed_120
  refine br_sp h (fun ek h => ?_) (fun n14 h => ?_)
  · refine k_tabIn (tgt := 121) (off := 113) hx hb dX3_isWholeFormed_8 ek (by decide) (by decide) rfl rfl ?_
    refine lv_aload_n hx hb dX3_isWholeFormed_121 rfl (lv_at hl 0 rfl) ?_
    refine yg_3_41 X hw dX3_isWholeFormed_122 ?_
    refine lv_aload_n hx hb dX3_isWholeFormed_125 rfl (lv_at hl 0 rfl) ?_
    refine yg_3_37 X hw dX3_isWholeFormed_126 ?_
    refine lv_iload_n hx hb dX3_isWholeFormed_129 rfl (lv_at hl 1 rfl) ?_
    refine lv_iconst hx hb dX3_isWholeFormed_130 (v := jI 1) rfl ?_
    refine ycI (n := 2) (e_7_item ra0 (by decide) h) 7 6 (r := (RX7, TX7, 9)) rfl yG_3_67 yD_7_item X hw rfl yGo_7 (Nat.le_trans (Nat.le_of_ble_eq_true rfl) hRf) (Nat.le_trans (Nat.le_of_ble_eq_true rfl) hRl) rfl hl.1 (Nat.le_of_ble_eq_true rfl) rfl dX3_isWholeFormed_131 (fun v12 u H locs rv12 h hw => ?_)
    refine ycI (n := 1) (e_0_theoremOf rv12 h) 0 0 (r := (RX0, TX0, 21)) rfl yG_3_125 yD_0_theoremOf X hw rfl yGo_0 (Nat.le_trans (Nat.le_of_ble_eq_true rfl) hRf) (Nat.le_trans (Nat.le_of_ble_eq_true rfl) hRl) rfl hl.1 (Nat.le_of_ble_eq_true rfl) rfl dX3_isWholeFormed_134 (fun v13 u H locs rv13 h hw => ?_)
    refine lv_iconst hx hb dX3_isWholeFormed_137 (v := jI (-1)) rfl ?_
    refine k_icmp_eq hx hb rv13 (by decide) dX3_isWholeFormed_138 (tgt := 145) rfl h (fun h => ?_) (fun h => ?_)
    · refine lv_iconst hx hb dX3_isWholeFormed_145 (v := jI 0) rfl ?_
      exact hret _ _ _ _ _ _ h.1 h.2 hw dX3_isWholeFormed_146
    · refine lv_iconst hx hb dX3_isWholeFormed_141 (v := jI 1) rfl ?_
      refine lv_goto hx hb dX3_isWholeFormed_142 (tgt := 146) rfl ?_
      exact hret _ _ _ _ _ _ h.1 h.2 hw dX3_isWholeFormed_146
  refine br_sp h (fun ek h => ?_) (fun n17 h => ?_)
  · refine k_tabIn (tgt := 147) (off := 139) hx hb dX3_isWholeFormed_8 ek (by decide) (by decide) rfl rfl ?_
    refine lv_aload_n hx hb dX3_isWholeFormed_147 rfl (lv_at hl 0 rfl) ?_
    refine lv_aload_n hx hb dX3_isWholeFormed_148 rfl (lv_at hl 0 rfl) ?_
    refine yg_3_37 X hw dX3_isWholeFormed_149 ?_
    refine lv_iload_n hx hb dX3_isWholeFormed_152 rfl (lv_at hl 1 rfl) ?_
    refine lv_iconst hx hb dX3_isWholeFormed_153 (v := jI 1) rfl ?_
    refine ycI (n := 2) (e_7_item ra0 (by decide) h) 7 6 (r := (RX7, TX7, 9)) rfl yG_3_67 yD_7_item X hw rfl yGo_7 (Nat.le_trans (Nat.le_of_ble_eq_true rfl) hRf) (Nat.le_trans (Nat.le_of_ble_eq_true rfl) hRl) rfl hl.1 (Nat.le_of_ble_eq_true rfl) rfl dX3_isWholeFormed_154 (fun v15 u H locs rv15 h hw => ?_)
    refine ycI (n := 1) (e_3_isListOfTerms rv15 h) 3 2 (r := (RX3, TX3, 11)) rfl yG_3_128 yD_3_isListOfTerms X hw rfl yGo_3 (Nat.le_trans (Nat.le_of_ble_eq_true rfl) hRf) (Nat.le_trans (Nat.le_of_ble_eq_true rfl) hRl) rfl hl.1 (Nat.le_of_ble_eq_true rfl) rfl dX3_isWholeFormed_157 (fun v16 u H locs rv16 h hw => ?_)
    exact hret _ _ _ _ _ _ h.1 h.2 hw dX3_isWholeFormed_160
  refine br_sp h (fun ek h => ?_) (fun n18 h => ?_)
  · refine k_tabIn (tgt := 190) (off := 182) hx hb dX3_isWholeFormed_8 ek (by decide) (by decide) rfl rfl ?_
    refine lv_iconst hx hb dX3_isWholeFormed_190 (v := jI 1) rfl ?_
    exact hret _ _ _ _ _ _ h.1 h.2 hw dX3_isWholeFormed_191
  refine br_sp h (fun ek h => ?_) (fun n22 h => ?_)
  · refine k_tabIn (tgt := 161) (off := 153) hx hb dX3_isWholeFormed_8 ek (by decide) (by decide) rfl rfl ?_
    refine lv_aload_n hx hb dX3_isWholeFormed_161 rfl (lv_at hl 0 rfl) ?_
    refine yg_3_45 X hw dX3_isWholeFormed_162 ?_
    refine lv_aload_n hx hb dX3_isWholeFormed_165 rfl (lv_at hl 0 rfl) ?_
    refine yg_3_37 X hw dX3_isWholeFormed_166 ?_
    refine lv_aload_n hx hb dX3_isWholeFormed_169 rfl (lv_at hl 0 rfl) ?_
    refine yg_3_37 X hw dX3_isWholeFormed_170 ?_
    refine lv_iload_n hx hb dX3_isWholeFormed_173 rfl (lv_at hl 1 rfl) ?_
    refine ycI (n := 1) (e_7_right ra0 h) 7 6 (r := (RX7, TX7, 9)) rfl yG_3_131 yD_7_right X hw rfl yGo_7 (Nat.le_trans (Nat.le_of_ble_eq_true rfl) hRf) (Nat.le_trans (Nat.le_of_ble_eq_true rfl) hRl) rfl hl.1 (Nat.le_of_ble_eq_true rfl) rfl dX3_isWholeFormed_174 (fun v19 u H locs rv19 h hw => ?_)
    refine ycI (n := 1) (e_7_right rv19 h) 7 6 (r := (RX7, TX7, 9)) rfl yG_3_131 yD_7_right X hw rfl yGo_7 (Nat.le_trans (Nat.le_of_ble_eq_true rfl) hRf) (Nat.le_trans (Nat.le_of_ble_eq_true rfl) hRl) rfl hl.1 (Nat.le_of_ble_eq_true rfl) rfl dX3_isWholeFormed_177 (fun v20 u H locs rv20 h hw => ?_)
    refine ycI (n := 1) (e_10_bindPairs rv20 h) 10 8 (r := (RX10, TX10, 16)) rfl yG_3_134 yD_10_bindPairs X hw rfl yGo_10 (Nat.le_trans (Nat.le_of_ble_eq_true rfl) hRf) (Nat.le_trans (Nat.le_of_ble_eq_true rfl) hRl) rfl hl.1 (Nat.le_of_ble_eq_true rfl) rfl dX3_isWholeFormed_180 (fun v21 u H locs rv21 h hw => ?_)
    exact hret _ _ _ _ _ _ h.1 h.2 hw dX3_isWholeFormed_183
  refine br_sp h (fun ek h => ?_) (fun n23 h => ?_)
  · refine k_tabIn (tgt := 190) (off := 182) hx hb dX3_isWholeFormed_8 ek (by decide) (by decide) rfl rfl ?_
    refine lv_iconst hx hb dX3_isWholeFormed_190 (v := jI 1) rfl ?_
    exact hret _ _ _ _ _ _ h.1 h.2 hw dX3_isWholeFormed_191
  refine br_sp h (fun ek h => ?_) (fun n24 h => ?_)
  · refine k_tabIn (tgt := 190) (off := 182) hx hb dX3_isWholeFormed_8 ek (by decide) (by decide) rfl rfl ?_
    refine lv_iconst hx hb dX3_isWholeFormed_190 (v := jI 1) rfl ?_
    exact hret _ _ _ _ _ _ h.1 h.2 hw dX3_isWholeFormed_191
  refine br_sp h (fun ek h => ?_) (fun n26 h => ?_)
  · refine k_tabIn (tgt := 184) (off := 176) hx hb dX3_isWholeFormed_8 ek (by decide) (by decide) rfl rfl ?_
    refine lv_aload_n hx hb dX3_isWholeFormed_184 rfl (lv_at hl 0 rfl) ?_
    refine lv_iload_n hx hb dX3_isWholeFormed_185 rfl (lv_at hl 1 rfl) ?_
    refine ycI (n := 1) (e_3_isInduction ra0 h) 3 2 (r := (RX3, TX3, 11)) rfl yG_3_137 yD_3_isInduction X hw rfl yGo_3 (Nat.le_trans (Nat.le_of_ble_eq_true rfl) hRf) (Nat.le_trans (Nat.le_of_ble_eq_true rfl) hRl) rfl hl.1 (Nat.le_of_ble_eq_true rfl) rfl dX3_isWholeFormed_186 (fun v25 u H locs rv25 h hw => ?_)
    exact hret _ _ _ _ _ _ h.1 h.2 hw dX3_isWholeFormed_189
  refine k_tabOut (tgt := 190) hx hb rv1 dX3_isWholeFormed_8 (by omega) rfl ?_
  refine lv_iconst hx hb dX3_isWholeFormed_190 (v := jI 1) rfl ?_
  exact hret _ _ _ _ _ _ h.1 h.2 hw dX3_isWholeFormed_191

end
theorem e_3_isWholeFormed {l : Launch} {a0 : Int} (ra0 : inR a0) {Q : Int → iST → Prop} {u : iST} (h : v_3_isWholeFormed a0 Q u) : yMI l yX3_isWholeFormed (.code yX3_isWholeFormed cX3_isWholeFormed 2 (some .boolean) :: wsN) { frames := 4, cells := 0, slots := 0, locals := 100 } (fun ad => [.ref (ad 0 2), .int (jI a0)]) Q u := yMZ_of (own := RX3) rfl (by decide +kernel) (fun _ => Nat.le_of_ble_eq_true rfl) (fun X hRf hRl hret hw hl => f_3_isWholeFormed_s X hRf hRl hret ra0 hw hl h)

/-! ProofHouse$Proofs.open -/
theorem dX3_open_0 : decode cX3_open 0 = .ok (.aload_n 0, 1) := by decide +kernel
theorem dX3_open_1 : decode cX3_open 1 = .ok (.getfield 16, 3) := by decide +kernel
theorem dX3_open_4 : decode cX3_open 4 = .ok (.bipush 40, 2) := by decide +kernel
theorem dX3_open_6 : decode cX3_open 6 = .ok (.if_icmp .lt 12, 3) := by decide +kernel
theorem dX3_open_9 : decode cX3_open 9 = .ok (.aload_n 0, 1) := by decide +kernel
theorem dX3_open_10 : decode cX3_open 10 = .ok (.getfield 37, 3) := by decide +kernel
theorem dX3_open_13 : decode cX3_open 13 = .ok (.iconst 2, 1) := by decide +kernel
theorem dX3_open_14 : decode cX3_open 14 = .ok (.invokevirtual 75, 3) := by decide +kernel
theorem dX3_open_17 : decode cX3_open 17 = .ok (.return_, 1) := by decide +kernel
theorem dX3_open_18 : decode cX3_open 18 = .ok (.aload_n 0, 1) := by decide +kernel
theorem dX3_open_19 : decode cX3_open 19 = .ok (.getfield 37, 3) := by decide +kernel
theorem dX3_open_22 : decode cX3_open 22 = .ok (.invokevirtual 78, 3) := by decide +kernel
theorem dX3_open_25 : decode cX3_open 25 = .ok (.ifCond .ne 4, 3) := by decide +kernel
theorem dX3_open_28 : decode cX3_open 28 = .ok (.return_, 1) := by decide +kernel
theorem dX3_open_29 : decode cX3_open 29 = .ok (.aload_n 0, 1) := by decide +kernel
theorem dX3_open_30 : decode cX3_open 30 = .ok (.iload_n 1, 1) := by decide +kernel
theorem dX3_open_31 : decode cX3_open 31 = .ok (.invokevirtual 82, 3) := by decide +kernel
theorem dX3_open_34 : decode cX3_open 34 = .ok (.ifCond .eq 11, 3) := by decide +kernel
theorem dX3_open_37 : decode cX3_open 37 = .ok (.aload_n 0, 1) := by decide +kernel
theorem dX3_open_38 : decode cX3_open 38 = .ok (.iload_n 1, 1) := by decide +kernel
theorem dX3_open_39 : decode cX3_open 39 = .ok (.invokevirtual 86, 3) := by decide +kernel
theorem dX3_open_42 : decode cX3_open 42 = .ok (.ifCond .ne 9, 3) := by decide +kernel
theorem dX3_open_45 : decode cX3_open 45 = .ok (.aload_n 0, 1) := by decide +kernel
theorem dX3_open_46 : decode cX3_open 46 = .ok (.iload_n 1, 1) := by decide +kernel
theorem dX3_open_47 : decode cX3_open 47 = .ok (.putfield 34, 3) := by decide +kernel
theorem dX3_open_50 : decode cX3_open 50 = .ok (.return_, 1) := by decide +kernel
theorem dX3_open_51 : decode cX3_open 51 = .ok (.aload_n 0, 1) := by decide +kernel
theorem dX3_open_52 : decode cX3_open 52 = .ok (.getfield 37, 3) := by decide +kernel
theorem dX3_open_55 : decode cX3_open 55 = .ok (.iload_n 1, 1) := by decide +kernel
theorem dX3_open_56 : decode cX3_open 56 = .ok (.invokevirtual 89, 3) := by decide +kernel
theorem dX3_open_59 : decode cX3_open 59 = .ok (.bipush 28, 2) := by decide +kernel
theorem dX3_open_61 : decode cX3_open 61 = .ok (.isub, 1) := by decide +kernel
theorem dX3_open_62 : decode cX3_open 62 = .ok (.istore_n 2, 1) := by decide +kernel
theorem dX3_open_63 : decode cX3_open 63 = .ok (.aload_n 0, 1) := by decide +kernel
theorem dX3_open_64 : decode cX3_open 64 = .ok (.getfield 13, 3) := by decide +kernel
theorem dX3_open_67 : decode cX3_open 67 = .ok (.aload_n 0, 1) := by decide +kernel
theorem dX3_open_68 : decode cX3_open 68 = .ok (.getfield 16, 3) := by decide +kernel
theorem dX3_open_71 : decode cX3_open 71 = .ok (.aaload, 1) := by decide +kernel
theorem dX3_open_72 : decode cX3_open 72 = .ok (.astore_n 3, 1) := by decide +kernel
theorem dX3_open_73 : decode cX3_open 73 = .ok (.aload_n 0, 1) := by decide +kernel
theorem dX3_open_74 : decode cX3_open 74 = .ok (.dup, 1) := by decide +kernel
theorem dX3_open_75 : decode cX3_open 75 = .ok (.getfield 16, 3) := by decide +kernel
theorem dX3_open_78 : decode cX3_open 78 = .ok (.iconst 1, 1) := by decide +kernel
theorem dX3_open_79 : decode cX3_open 79 = .ok (.iadd, 1) := by decide +kernel
theorem dX3_open_80 : decode cX3_open 80 = .ok (.putfield 16, 3) := by decide +kernel
theorem dX3_open_83 : decode cX3_open 83 = .ok (.aload_n 3, 1) := by decide +kernel
theorem dX3_open_84 : decode cX3_open 84 = .ok (.iconst 0, 1) := by decide +kernel
theorem dX3_open_85 : decode cX3_open 85 = .ok (.iload_n 1, 1) := by decide +kernel
theorem dX3_open_86 : decode cX3_open 86 = .ok (.iastore, 1) := by decide +kernel
theorem dX3_open_87 : decode cX3_open 87 = .ok (.aload_n 3, 1) := by decide +kernel
theorem dX3_open_88 : decode cX3_open 88 = .ok (.iconst 1, 1) := by decide +kernel
theorem dX3_open_89 : decode cX3_open 89 = .ok (.iload_n 2, 1) := by decide +kernel
theorem dX3_open_90 : decode cX3_open 90 = .ok (.bipush 15, 2) := by decide +kernel
theorem dX3_open_92 : decode cX3_open 92 = .ok (.if_icmp .ne 20, 3) := by decide +kernel
theorem dX3_open_95 : decode cX3_open 95 = .ok (.aload_n 0, 1) := by decide +kernel
theorem dX3_open_96 : decode cX3_open 96 = .ok (.getfield 37, 3) := by decide +kernel
theorem dX3_open_99 : decode cX3_open 99 = .ok (.iload_n 1, 1) := by decide +kernel
theorem dX3_open_100 : decode cX3_open 100 = .ok (.invokevirtual 93, 3) := by decide +kernel
theorem dX3_open_103 : decode cX3_open 103 = .ok (.getstatic 96, 3) := by decide +kernel
theorem dX3_open_106 : decode cX3_open 106 = .ok (.iload_n 2, 1) := by decide +kernel
theorem dX3_open_107 : decode cX3_open 107 = .ok (.iaload, 1) := by decide +kernel
theorem dX3_open_108 : decode cX3_open 108 = .ok (.isub, 1) := by decide +kernel
theorem dX3_open_109 : decode cX3_open 109 = .ok (.goto 8, 3) := by decide +kernel
theorem dX3_open_112 : decode cX3_open 112 = .ok (.getstatic 100, 3) := by decide +kernel
theorem dX3_open_115 : decode cX3_open 115 = .ok (.iload_n 2, 1) := by decide +kernel
theorem dX3_open_116 : decode cX3_open 116 = .ok (.iaload, 1) := by decide +kernel
theorem dX3_open_117 : decode cX3_open 117 = .ok (.iastore, 1) := by decide +kernel
theorem dX3_open_118 : decode cX3_open 118 = .ok (.aload_n 3, 1) := by decide +kernel
theorem dX3_open_119 : decode cX3_open 119 = .ok (.iconst 2, 1) := by decide +kernel
theorem dX3_open_120 : decode cX3_open 120 = .ok (.getstatic 103, 3) := by decide +kernel
theorem dX3_open_123 : decode cX3_open 123 = .ok (.iload_n 2, 1) := by decide +kernel
theorem dX3_open_124 : decode cX3_open 124 = .ok (.iaload, 1) := by decide +kernel
theorem dX3_open_125 : decode cX3_open 125 = .ok (.iastore, 1) := by decide +kernel
theorem dX3_open_126 : decode cX3_open 126 = .ok (.aload_n 3, 1) := by decide +kernel
theorem dX3_open_127 : decode cX3_open 127 = .ok (.iconst 3, 1) := by decide +kernel
theorem dX3_open_128 : decode cX3_open 128 = .ok (.aload_n 0, 1) := by decide +kernel
theorem dX3_open_129 : decode cX3_open 129 = .ok (.getfield 26, 3) := by decide +kernel
theorem dX3_open_132 : decode cX3_open 132 = .ok (.iastore, 1) := by decide +kernel
theorem dX3_open_133 : decode cX3_open 133 = .ok (.return_, 1) := by decide +kernel

section
variable {p : Program} {l : Launch} {e : Env} {R : Room} {s : State} {m : MethodId} {args : Array Value} {below : List Frame} {meth : Method} {c : Code} {H : Heap} {locs : List Loc} {Qf : State → Prop}
variable {ls : Array Slot} {D : va_G} {ca : Nat → ClassId} {A : Nat → Prop} {ad : Nat → Nat → Nat} {u : iST}
def v_3_open_45 (Q : iST → Prop) (x1 : Int) (u : iST) : Prop :=
  sw (iI u 12 x1) (fun u => 
  Q u)
set_option maxRecDepth 20000 in
set_option maxHeartbeats 4000000 in
theorem f_3_open_45 (X : yX RX3 p m c cX3_open 4 s args D ca ad A) (hRf : 5 ≤ R.frames) (hRl : 122 ≤ R.locals) {Q : iST → Prop} (hret : ∀ (u : iST) (H : Heap) (locs : List Loc) (ls : Array Slot) (pc : Nat), Q u → yW D ca A ad s H locs u → decode cX3_open pc = .ok (.return_, 1) → W p l e R s m args below meth c H locs 0 0 Qf (F0 m pc ls [])) {x1 : Int} (rx1 : inR x1) (hw : yW D ca A ad s H locs u) (hl : lv_has ls 4 [(0, .ref (ad 0 2)), (1, .int (jI x1))]) (h : v_3_open_45 Q x1 u) : W p l e R s m args below meth c H locs 0 0 Qf (F0 m 45 ls []) := by
  have hx := X.1.1
  have hb := X.1.2.1
  unfold v_3_open_45 at h
  refine lv_aload_n hx hb dX3_open_45 rfl (lv_at hl 0 rfl) ?_
  refine lv_iload_n hx hb dX3_open_46 rfl (lv_at hl 1 rfl) ?_
  refine yp_3_34 X hw rx1 dX3_open_47 h (fun H locs u hw h => ?_)
  exact hret _ _ _ _ _ h hw dX3_open_50

def v_3_open_117 (Q : iST → Prop) (x2 : Int) (x3 : Int) (y0 : Int) (y1 : Int) (y2 : Int) (u : iST) : Prop :=
  bd y1 4 (sw (iA u 53 (4 * y0 + y1) y2) (fun u => 
  bd x2 16 (rd (yT_FIRST_PARTS.getD x2.toNat 0) (fun v13 => 
  bd 2 4 (sw (iA u 53 (4 * x3 + 2) v13) (fun u => 
  rd (u.1 11) (fun v14 => 
  bd 3 4 (sw (iA u 53 (4 * x3 + 3) v14) (fun u => 
  Q u)))))))))
set_option maxRecDepth 20000 in
set_option maxHeartbeats 4000000 in
theorem f_3_open_117 (X : yX RX3 p m c cX3_open 4 s args D ca ad A) (hRf : 5 ≤ R.frames) (hRl : 122 ≤ R.locals) {Q : iST → Prop} (hret : ∀ (u : iST) (H : Heap) (locs : List Loc) (ls : Array Slot) (pc : Nat), Q u → yW D ca A ad s H locs u → decode cX3_open pc = .ok (.return_, 1) → W p l e R s m args below meth c H locs 0 0 Qf (F0 m pc ls [])) {x2 x3 y0 y1 y2 : Int} (rx2 : inR x2) (rx3 : (0 ≤ x3 ∧ x3 < 40)) (ry0 : (0 ≤ y0 ∧ y0 < 40)) (ry1 : inR y1) (ry2 : inR y2) (hw : yW D ca A ad s H locs u) (hl : lv_has ls 4 [(0, .ref (ad 0 2)), (2, .int (jI x2)), (3, .ref (ad 9 x3.toNat))]) (h : v_3_open_117 Q x2 x3 y0 y1 y2 u) : W p l e R s m args below meth c H locs 0 0 Qf (F0 m 117 ls [.int (jI y2), .int (jI y1), .ref (ad 9 y0.toNat)]) := by
  have hx := X.1.1
  have hb := X.1.2.1
  unfold v_3_open_117 at h
  refine yft_pframes X hw ry0 ry1 ry2 dX3_open_117 h (fun H locs u hw h => ?_)
  refine lv_aload_n hx hb dX3_open_118 rfl (lv_at hl 2 rfl) ?_
  refine lv_iconst hx hb dX3_open_119 (v := jI 2) rfl ?_
  refine ys_3_103 X hw dX3_open_120 ?_
  refine lv_iload_n hx hb dX3_open_123 rfl (lv_at hl 1 rfl) ?_
  refine yst_3 X hw rx2 dX3_open_124 h (fun v13 rv13 h => ?_)
  refine yft_pframes X hw rx3 (by decide) rv13 dX3_open_125 h (fun H locs u hw h => ?_)
  refine lv_aload_n hx hb dX3_open_126 rfl (lv_at hl 2 rfl) ?_
  refine lv_iconst hx hb dX3_open_127 (v := jI 3) rfl ?_
  refine lv_aload_n hx hb dX3_open_128 rfl (lv_at hl 0 rfl) ?_
  refine yg_3_26 X hw dX3_open_129 h (fun v14 rv14 h => ?_)
  refine yft_pframes X hw rx3 (by decide) rv14 dX3_open_132 h (fun H locs u hw h => ?_)
  exact hret _ _ _ _ _ h hw dX3_open_133

def v_3_open (a0 : Int) (Q : iST → Prop) (u : iST) : Prop :=
  rd (u.1 10) (fun v1 => 
  br (v1 < 40) (
    v_7_step (fun v2 u => 
    br (v2 ≠ 0) (
      v_3_isFormed a0 (fun v3 u => 
      br (v3 = 0) (
        v_3_open_45 Q a0 u) (
        v_3_isWholeFormed a0 (fun v4 u => 
        br (v4 ≠ 0) (
          v_7_left a0 (fun v5 u => 
          ov (v5 - 28) (
          rd (u.1 10) (fun v7 => 
          bd v7 40 (
          rd (u.1 10) (fun v10 => 
          ov (v10 + 1) (
          sw (iI u 10 (v10 + 1)) (fun u => 
          bd 0 4 (sw (iA u 53 (4 * v7 + 0) a0) (fun u => 
          br ((v5 - 28) ≠ 15) (
            bd (v5 - 28) 16 (rd (yT_PART_COUNTS.getD (v5 - 28).toNat 0) (fun v12 => 
            v_3_open_117 Q (v5 - 28) v7 v7 1 v12 u))) (
            v_7_lengthOf a0 (fun v15 u => 
            bd (v5 - 28) 16 (rd (yT_LENGTHS.getD (v5 - 28).toNat 0) (fun v16 => 
            ov (v15 - v16) (
            v_3_open_117 Q (v5 - 28) v7 v7 1 (v15 - v16) u)))) u)))))))))) u) (
          v_3_open_45 Q a0 u)) u)) u) (
      Q u)) u) (
    v_7_blame 2 (fun u => 
    Q u) u))
set_option maxRecDepth 20000 in
set_option maxHeartbeats 4000000 in
theorem f_3_open_s (X : yX RX3 p m c cX3_open 4 s args D ca ad A) (hRf : 5 ≤ R.frames) (hRl : 122 ≤ R.locals) {Q : iST → Prop} (hret : ∀ (u : iST) (H : Heap) (locs : List Loc) (ls : Array Slot) (pc : Nat), Q u → yW D ca A ad s H locs u → decode cX3_open pc = .ok (.return_, 1) → W p l e R s m args below meth c H locs 0 0 Qf (F0 m pc ls [])) {a0 : Int} (ra0 : inR a0) (hw : yW D ca A ad s H locs u) (hl : lv_has ls 4 [(0, .ref (ad 0 2)), (1, .int (jI a0))]) (h : v_3_open a0 Q u) : W p l e R s m args below meth c H locs 0 0 Qf (F0 m 0 ls []) := by
  have hx := X.1.1
  have hb := X.1.2.1
  unfold v_3_open at h
  refine lv_aload_n hx hb dX3_open_0 rfl (lv_at hl 0 rfl) ?_
  refine yg_3_16 X hw dX3_open_1 h (fun v1 rv1 h => ?_)
  refine lv_bipush hx hb dX3_open_4 (v := jI 40) rfl ?_
  refine k_icmp_lt hx hb rv1 (by decide) dX3_open_6 (tgt := 18) rfl h (fun h => ?_) (fun h => ?_)
  · refine lv_aload_n hx hb dX3_open_18 rfl (lv_at hl 0 rfl) ?_
    refine yg_3_37 X hw dX3_open_19 ?_
    refine ycI (n := 0) (e_7_step h) 7 6 (r := (RX7, TX7, 9)) rfl yG_3_78 yD_7_step X hw rfl yGo_7 (Nat.le_trans (Nat.le_of_ble_eq_true rfl) hRf) (Nat.le_trans (Nat.le_of_ble_eq_true rfl) hRl) rfl hl.1 (Nat.le_of_ble_eq_true rfl) rfl dX3_open_22 (fun v2 u H locs rv2 h hw => ?_)
    refine k_if_ne hx hb rv2 dX3_open_25 (tgt := 29) rfl h (fun h => ?_) (fun h => ?_)
    · refine lv_aload_n hx hb dX3_open_29 rfl (lv_at hl 0 rfl) ?_
      refine lv_iload_n hx hb dX3_open_30 rfl (lv_at hl 1 rfl) ?_
      refine ycI (n := 1) (e_3_isFormed ra0 h) 3 2 (r := (RX3, TX3, 11)) rfl yG_3_82 yD_3_isFormed X hw rfl yGo_3 (Nat.le_trans (Nat.le_of_ble_eq_true rfl) hRf) (Nat.le_trans (Nat.le_of_ble_eq_true rfl) hRl) rfl hl.1 (Nat.le_of_ble_eq_true rfl) rfl dX3_open_31 (fun v3 u H locs rv3 h hw => ?_)
      refine k_if_eq hx hb rv3 dX3_open_34 (tgt := 45) rfl h (fun h => ?_) (fun h => ?_)
      · exact f_3_open_45 X hRf hRl hret ra0 hw hl h
      · refine lv_aload_n hx hb dX3_open_37 rfl (lv_at hl 0 rfl) ?_
        refine lv_iload_n hx hb dX3_open_38 rfl (lv_at hl 1 rfl) ?_
        refine ycI (n := 1) (e_3_isWholeFormed ra0 h) 3 2 (r := (RX3, TX3, 11)) rfl yG_3_86 yD_3_isWholeFormed X hw rfl yGo_3 (Nat.le_trans (Nat.le_of_ble_eq_true rfl) hRf) (Nat.le_trans (Nat.le_of_ble_eq_true rfl) hRl) rfl hl.1 (Nat.le_of_ble_eq_true rfl) rfl dX3_open_39 (fun v4 u H locs rv4 h hw => ?_)
        refine k_if_ne hx hb rv4 dX3_open_42 (tgt := 51) rfl h (fun h => ?_) (fun h => ?_)
        · refine lv_aload_n hx hb dX3_open_51 rfl (lv_at hl 0 rfl) ?_
          refine yg_3_37 X hw dX3_open_52 ?_
          refine lv_iload_n hx hb dX3_open_55 rfl (lv_at hl 1 rfl) ?_
          refine ycI (n := 1) (e_7_left ra0 h) 7 6 (r := (RX7, TX7, 9)) rfl yG_3_89 yD_7_left X hw rfl yGo_7 (Nat.le_trans (Nat.le_of_ble_eq_true rfl) hRf) (Nat.le_trans (Nat.le_of_ble_eq_true rfl) hRl) rfl hl.1 (Nat.le_of_ble_eq_true rfl) rfl dX3_open_56 (fun v5 u H locs rv5 h hw => ?_)
          refine lv_bipush hx hb dX3_open_59 (v := jI 28) rfl ?_
          refine k_isub hx hb dX3_open_61 h (fun r6 h => ?_)
          refine lv_istore_n hx hb dX3_open_62 rfl hl (by decide) rfl (fun ls hl => ?_)
          have hl : lv_has ls 4 [(2, .int (jI (v5 - 28))), (0, .ref (ad 0 2)), (1, .int (jI a0))] := hl
          refine lv_aload_n hx hb dX3_open_63 rfl (lv_at hl 1 rfl) ?_
          refine yg_3_13 X hw dX3_open_64 ?_
          refine lv_aload_n hx hb dX3_open_67 rfl (lv_at hl 1 rfl) ?_
          refine yg_3_16 X hw dX3_open_68 h (fun v7 rv7 h => ?_)
          have q8 := h
          have r9 : (0 ≤ v7 ∧ v7 < 40) := ⟨q8.1, by have := q8.2.1; omega⟩
          refine yx_3 X hw rv7 dX3_open_71 h (fun h => ?_)
          refine lv_astore_n hx hb dX3_open_72 rfl hl (by decide) rfl (fun ls hl => ?_)
          have hl : lv_has ls 4 [(3, .ref (ad 9 v7.toNat)), (2, .int (jI (v5 - 28))), (0, .ref (ad 0 2)), (1, .int (jI a0))] := hl
          refine lv_aload_n hx hb dX3_open_73 rfl (lv_at hl 2 rfl) ?_
          refine lv_dup hx hb dX3_open_74 rfl ?_
          refine yg_3_16 X hw dX3_open_75 h (fun v10 rv10 h => ?_)
          refine lv_iconst hx hb dX3_open_78 (v := jI 1) rfl ?_
          refine k_iadd hx hb dX3_open_79 h (fun r11 h => ?_)
          refine yp_3_16 X hw r11 dX3_open_80 h (fun H locs u hw h => ?_)
          refine lv_aload_n hx hb dX3_open_83 rfl (lv_at hl 0 rfl) ?_
          refine lv_iconst hx hb dX3_open_84 (v := jI 0) rfl ?_
          refine lv_iload_n hx hb dX3_open_85 rfl (lv_at hl 3 rfl) ?_
          refine yft_pframes X hw r9 (by decide) ra0 dX3_open_86 h (fun H locs u hw h => ?_)
          refine lv_aload_n hx hb dX3_open_87 rfl (lv_at hl 0 rfl) ?_
          refine lv_iconst hx hb dX3_open_88 (v := jI 1) rfl ?_
          refine lv_iload_n hx hb dX3_open_89 rfl (lv_at hl 1 rfl) ?_
          refine lv_bipush hx hb dX3_open_90 (v := jI 15) rfl ?_
          refine k_icmp_ne hx hb r6 (by decide) dX3_open_92 (tgt := 112) rfl h (fun h => ?_) (fun h => ?_)
          · refine ys_3_100 X hw dX3_open_112 ?_
            refine lv_iload_n hx hb dX3_open_115 rfl (lv_at hl 1 rfl) ?_
            refine yst_4 X hw r6 dX3_open_116 h (fun v12 rv12 h => ?_)
            exact f_3_open_117 X hRf hRl hret r6 r9 r9 (by decide) rv12 hw (lv_sub hl [2, 1, 0] rfl) h
          · refine lv_aload_n hx hb dX3_open_95 rfl (lv_at hl 2 rfl) ?_
            refine yg_3_37 X hw dX3_open_96 ?_
            refine lv_iload_n hx hb dX3_open_99 rfl (lv_at hl 3 rfl) ?_
            refine ycI (n := 1) (e_7_lengthOf ra0 h) 7 6 (r := (RX7, TX7, 9)) rfl yG_3_93 yD_7_lengthOf X hw rfl yGo_7 (Nat.le_trans (Nat.le_of_ble_eq_true rfl) hRf) (Nat.le_trans (Nat.le_of_ble_eq_true rfl) hRl) rfl hl.1 (Nat.le_of_ble_eq_true rfl) rfl dX3_open_100 (fun v15 u H locs rv15 h hw => ?_)
            refine ys_3_96 X hw dX3_open_103 ?_
            refine lv_iload_n hx hb dX3_open_106 rfl (lv_at hl 1 rfl) ?_
            refine yst_1 X hw r6 dX3_open_107 h (fun v16 rv16 h => ?_)
            refine k_isub hx hb dX3_open_108 h (fun r17 h => ?_)
            refine lv_goto hx hb dX3_open_109 (tgt := 117) rfl ?_
            exact f_3_open_117 X hRf hRl hret r6 r9 r9 (by decide) r17 hw (lv_sub hl [2, 1, 0] rfl) h
        · exact f_3_open_45 X hRf hRl hret ra0 hw hl h
    · exact hret _ _ _ _ _ h hw dX3_open_28
  · refine lv_aload_n hx hb dX3_open_9 rfl (lv_at hl 0 rfl) ?_
    refine yg_3_37 X hw dX3_open_10 ?_
    refine lv_iconst hx hb dX3_open_13 (v := jI 2) rfl ?_
    refine ycV (n := 1) (e_7_blame (by decide) h) 7 6 (r := (RX7, TX7, 9)) rfl yG_3_75 yD_7_blame X hw rfl yGo_7 (Nat.le_trans (Nat.le_of_ble_eq_true rfl) hRf) (Nat.le_trans (Nat.le_of_ble_eq_true rfl) hRl) rfl hl.1 (Nat.le_of_ble_eq_true rfl) rfl dX3_open_14 (fun u H locs h hw => ?_)
    exact hret _ _ _ _ _ h hw dX3_open_17

end
theorem e_3_open {l : Launch} {a0 : Int} (ra0 : inR a0) {Q : iST → Prop} {u : iST} (h : v_3_open a0 Q u) : yMV l yX3_open (.code yX3_open cX3_open 4 none :: wsN) { frames := 5, cells := 0, slots := 0, locals := 122 } (fun ad => [.ref (ad 0 2), .int (jI a0)]) Q u := yMV_of (own := RX3) rfl (by decide +kernel) (fun _ => Nat.le_of_ble_eq_true rfl) (fun X hRf hRl hret hw hl => f_3_open_s X hRf hRl hret ra0 hw hl h)

/-! ProofHouse$Terms.join -/
theorem dX10_join_0 : decode cX10_join 0 = .ok (.iload_n 2, 1) := by decide +kernel
theorem dX10_join_1 : decode cX10_join 1 = .ok (.iconst (-1), 1) := by decide +kernel
theorem dX10_join_2 : decode cX10_join 2 = .ok (.if_icmp .eq 31, 3) := by decide +kernel
theorem dX10_join_5 : decode cX10_join 5 = .ok (.aload_n 1, 1) := by decide +kernel
theorem dX10_join_6 : decode cX10_join 6 = .ok (.aload_n 1, 1) := by decide +kernel
theorem dX10_join_7 : decode cX10_join 7 = .ok (.getfield 152, 3) := by decide +kernel
theorem dX10_join_10 : decode cX10_join 10 = .ok (.iload_n 2, 1) := by decide +kernel
theorem dX10_join_11 : decode cX10_join 11 = .ok (.aload_n 0, 1) := by decide +kernel
theorem dX10_join_12 : decode cX10_join 12 = .ok (.getfield 55, 3) := by decide +kernel
theorem dX10_join_15 : decode cX10_join 15 = .ok (.iload_n 2, 1) := by decide +kernel
theorem dX10_join_16 : decode cX10_join 16 = .ok (.invokevirtual 96, 3) := by decide +kernel
theorem dX10_join_19 : decode cX10_join 19 = .ok (.invokevirtual 157, 3) := by decide +kernel
theorem dX10_join_22 : decode cX10_join 22 = .ok (.ifCond .ne 11, 3) := by decide +kernel
theorem dX10_join_25 : decode cX10_join 25 = .ok (.aload_n 0, 1) := by decide +kernel
theorem dX10_join_26 : decode cX10_join 26 = .ok (.getfield 55, 3) := by decide +kernel
theorem dX10_join_29 : decode cX10_join 29 = .ok (.iconst 4, 1) := by decide +kernel
theorem dX10_join_30 : decode cX10_join 30 = .ok (.invokevirtual 99, 3) := by decide +kernel
theorem dX10_join_33 : decode cX10_join 33 = .ok (.return_, 1) := by decide +kernel

section
variable {p : Program} {l : Launch} {e : Env} {R : Room} {s : State} {m : MethodId} {args : Array Value} {below : List Frame} {meth : Method} {c : Code} {H : Heap} {locs : List Loc} {Qf : State → Prop}
variable {ls : Array Slot} {D : va_G} {ca : Nat → ClassId} {A : Nat → Prop} {ad : Nat → Nat → Nat} {u : iST}
def v_10_join (a0 : Int) (a1 : Int) (Q : iST → Prop) (u : iST) : Prop :=
  br (a1 = (-1)) (
    Q u) (
    rd (u.2.1 46 a0) (fun v1 => 
    v_7_sizeOf a1 (fun v2 u => 
    v_1_insert a0 v1 a1 v2 (fun v3 u => 
    br (v3 ≠ 0) (
      Q u) (
      v_7_blame 4 (fun u => 
      Q u) u)) u) u))
set_option maxRecDepth 20000 in
set_option maxHeartbeats 4000000 in
theorem f_10_join_s (X : yX RX10 p m c cX10_join 3 s args D ca ad A) (hRf : 1 ≤ R.frames) (hRl : 24 ≤ R.locals) {Q : iST → Prop} (hret : ∀ (u : iST) (H : Heap) (locs : List Loc) (ls : Array Slot) (pc : Nat), Q u → yW D ca A ad s H locs u → decode cX10_join pc = .ok (.return_, 1) → W p l e R s m args below meth c H locs 0 0 Qf (F0 m pc ls [])) {a0 a1 : Int} (ra0 : (0 ≤ a0 ∧ a0 < 408)) (ra1 : inR a1) (hw : yW D ca A ad s H locs u) (hl : lv_has ls 3 [(0, .ref (ad 0 8)), (1, .ref (ad 4 a0.toNat)), (2, .int (jI a1))]) (h : v_10_join a0 a1 Q u) : W p l e R s m args below meth c H locs 0 0 Qf (F0 m 0 ls []) := by
  have hx := X.1.1
  have hb := X.1.2.1
  unfold v_10_join at h
  refine lv_iload_n hx hb dX10_join_0 rfl (lv_at hl 2 rfl) ?_
  refine lv_iconst hx hb dX10_join_1 (v := jI (-1)) rfl ?_
  refine k_icmp_eq hx hb ra1 (by decide) dX10_join_2 (tgt := 33) rfl h (fun h => ?_) (fun h => ?_)
  · exact hret _ _ _ _ _ h hw dX10_join_33
  · refine lv_aload_n hx hb dX10_join_5 rfl (lv_at hl 1 rfl) ?_
    refine lv_aload_n hx hb dX10_join_6 rfl (lv_at hl 1 rfl) ?_
    refine yg_10_152 X hw dX10_join_7 ra0 h (fun v1 rv1 h => ?_)
    refine lv_iload_n hx hb dX10_join_10 rfl (lv_at hl 2 rfl) ?_
    refine lv_aload_n hx hb dX10_join_11 rfl (lv_at hl 0 rfl) ?_
    refine yg_10_55 X hw dX10_join_12 ?_
    refine lv_iload_n hx hb dX10_join_15 rfl (lv_at hl 2 rfl) ?_
    refine ycI (n := 1) (e_7_sizeOf ra1 h) 7 6 (r := (RX7, TX7, 9)) rfl yG_10_96 yD_7_sizeOf X hw rfl yGo_7 (Nat.le_trans (Nat.le_of_ble_eq_true rfl) hRf) (Nat.le_trans (Nat.le_of_ble_eq_true rfl) hRl) rfl hl.1 (Nat.le_of_ble_eq_true rfl) rfl dX10_join_16 (fun v2 u H locs rv2 h hw => ?_)
    refine ycI (n := 3) (e_1_insert ra0 rv1 ra1 rv2 h) 1 (65 + a0.toNat) (r := (RX1, TX1, 4)) rfl yG_10_157 yD_1_insert X hw rfl (yGf_clause (toNat_lt ra0)) (Nat.le_trans (Nat.le_of_ble_eq_true rfl) hRf) (Nat.le_trans (Nat.le_of_ble_eq_true rfl) hRl) rfl hl.1 (Nat.le_of_ble_eq_true rfl) rfl dX10_join_19 (fun v3 u H locs rv3 h hw => ?_)
    refine k_if_ne hx hb rv3 dX10_join_22 (tgt := 33) rfl h (fun h => ?_) (fun h => ?_)
    · exact hret _ _ _ _ _ h hw dX10_join_33
    · refine lv_aload_n hx hb dX10_join_25 rfl (lv_at hl 0 rfl) ?_
      refine yg_10_55 X hw dX10_join_26 ?_
      refine lv_iconst hx hb dX10_join_29 (v := jI 4) rfl ?_
      refine ycV (n := 1) (e_7_blame (by decide) h) 7 6 (r := (RX7, TX7, 9)) rfl yG_10_99 yD_7_blame X hw rfl yGo_7 (Nat.le_trans (Nat.le_of_ble_eq_true rfl) hRf) (Nat.le_trans (Nat.le_of_ble_eq_true rfl) hRl) rfl hl.1 (Nat.le_of_ble_eq_true rfl) rfl dX10_join_30 (fun u H locs h hw => ?_)
      exact hret _ _ _ _ _ h hw dX10_join_33

end
theorem e_10_join {l : Launch} {a0 : Int} {a1 : Int} (ra0 : (0 ≤ a0 ∧ a0 < 408)) (ra1 : inR a1) {Q : iST → Prop} {u : iST} (h : v_10_join a0 a1 Q u) : yMV l yX10_join (.code yX10_join cX10_join 3 none :: wsN) { frames := 1, cells := 0, slots := 0, locals := 24 } (fun ad => [.ref (ad 0 8), .ref (ad 4 a0.toNat), .int (jI a1)]) Q u := yMV_of (own := RX10) rfl (by decide +kernel) (fun _ => Nat.le_of_ble_eq_true rfl) (fun X hRf hRl hret hw hl => f_10_join_s X hRf hRl hret ra0 ra1 hw hl h)

/-! ProofHouse$Terms.call -/
theorem dX10_call_0 : decode cX10_call 0 = .ok (.iload 4, 2) := by decide +kernel
theorem dX10_call_2 : decode cX10_call 2 = .ok (.iconst (-1), 1) := by decide +kernel
theorem dX10_call_3 : decode cX10_call 3 = .ok (.if_icmp .ne 7, 3) := by decide +kernel
theorem dX10_call_6 : decode cX10_call 6 = .ok (.iconst 0, 1) := by decide +kernel
theorem dX10_call_7 : decode cX10_call 7 = .ok (.goto 16, 3) := by decide +kernel
theorem dX10_call_10 : decode cX10_call 10 = .ok (.aload_n 0, 1) := by decide +kernel
theorem dX10_call_11 : decode cX10_call 11 = .ok (.getfield 55, 3) := by decide +kernel
theorem dX10_call_14 : decode cX10_call 14 = .ok (.iload 4, 2) := by decide +kernel
theorem dX10_call_16 : decode cX10_call 16 = .ok (.iconst 0, 1) := by decide +kernel
theorem dX10_call_17 : decode cX10_call 17 = .ok (.invokestatic 84, 3) := by decide +kernel
theorem dX10_call_20 : decode cX10_call 20 = .ok (.invokevirtual 88, 3) := by decide +kernel
theorem dX10_call_23 : decode cX10_call 23 = .ok (.istore 5, 2) := by decide +kernel
theorem dX10_call_25 : decode cX10_call 25 = .ok (.iload_n 3, 1) := by decide +kernel
theorem dX10_call_26 : decode cX10_call 26 = .ok (.iconst (-1), 1) := by decide +kernel
theorem dX10_call_27 : decode cX10_call 27 = .ok (.if_icmp .ne 8, 3) := by decide +kernel
theorem dX10_call_30 : decode cX10_call 30 = .ok (.iload 5, 2) := by decide +kernel
theorem dX10_call_32 : decode cX10_call 32 = .ok (.goto 16, 3) := by decide +kernel
theorem dX10_call_35 : decode cX10_call 35 = .ok (.aload_n 0, 1) := by decide +kernel
theorem dX10_call_36 : decode cX10_call 36 = .ok (.getfield 55, 3) := by decide +kernel
theorem dX10_call_39 : decode cX10_call 39 = .ok (.iload_n 3, 1) := by decide +kernel
theorem dX10_call_40 : decode cX10_call 40 = .ok (.iload 5, 2) := by decide +kernel
theorem dX10_call_42 : decode cX10_call 42 = .ok (.invokestatic 84, 3) := by decide +kernel
theorem dX10_call_45 : decode cX10_call 45 = .ok (.invokevirtual 88, 3) := by decide +kernel
theorem dX10_call_48 : decode cX10_call 48 = .ok (.istore 5, 2) := by decide +kernel
theorem dX10_call_50 : decode cX10_call 50 = .ok (.aload_n 0, 1) := by decide +kernel
theorem dX10_call_51 : decode cX10_call 51 = .ok (.getfield 55, 3) := by decide +kernel
theorem dX10_call_54 : decode cX10_call 54 = .ok (.iload_n 1, 1) := by decide +kernel
theorem dX10_call_55 : decode cX10_call 55 = .ok (.aload_n 0, 1) := by decide +kernel
theorem dX10_call_56 : decode cX10_call 56 = .ok (.getfield 55, 3) := by decide +kernel
theorem dX10_call_59 : decode cX10_call 59 = .ok (.iload_n 2, 1) := by decide +kernel
theorem dX10_call_60 : decode cX10_call 60 = .ok (.iload 5, 2) := by decide +kernel
theorem dX10_call_62 : decode cX10_call 62 = .ok (.invokestatic 84, 3) := by decide +kernel
theorem dX10_call_65 : decode cX10_call 65 = .ok (.invokevirtual 88, 3) := by decide +kernel
theorem dX10_call_68 : decode cX10_call 68 = .ok (.invokestatic 84, 3) := by decide +kernel
theorem dX10_call_71 : decode cX10_call 71 = .ok (.invokevirtual 88, 3) := by decide +kernel
theorem dX10_call_74 : decode cX10_call 74 = .ok (.istore 6, 2) := by decide +kernel
theorem dX10_call_76 : decode cX10_call 76 = .ok (.aload_n 0, 1) := by decide +kernel
theorem dX10_call_77 : decode cX10_call 77 = .ok (.getfield 55, 3) := by decide +kernel
theorem dX10_call_80 : decode cX10_call 80 = .ok (.iload 6, 2) := by decide +kernel
theorem dX10_call_82 : decode cX10_call 82 = .ok (.invokevirtual 96, 3) := by decide +kernel
theorem dX10_call_85 : decode cX10_call 85 = .ok (.bipush 120, 2) := by decide +kernel
theorem dX10_call_87 : decode cX10_call 87 = .ok (.if_icmp .le 13, 3) := by decide +kernel
theorem dX10_call_90 : decode cX10_call 90 = .ok (.aload_n 0, 1) := by decide +kernel
theorem dX10_call_91 : decode cX10_call 91 = .ok (.getfield 55, 3) := by decide +kernel
theorem dX10_call_94 : decode cX10_call 94 = .ok (.iconst 4, 1) := by decide +kernel
theorem dX10_call_95 : decode cX10_call 95 = .ok (.invokevirtual 99, 3) := by decide +kernel
theorem dX10_call_98 : decode cX10_call 98 = .ok (.iconst (-1), 1) := by decide +kernel
theorem dX10_call_99 : decode cX10_call 99 = .ok (.ireturn, 1) := by decide +kernel
theorem dX10_call_100 : decode cX10_call 100 = .ok (.iload 6, 2) := by decide +kernel
theorem dX10_call_102 : decode cX10_call 102 = .ok (.ireturn, 1) := by decide +kernel

section
variable {p : Program} {l : Launch} {e : Env} {R : Room} {s : State} {m : MethodId} {args : Array Value} {below : List Frame} {meth : Method} {c : Code} {H : Heap} {locs : List Loc} {Qf : State → Prop}
variable {ls : Array Slot} {D : va_G} {ca : Nat → ClassId} {A : Nat → Prop} {ad : Nat → Nat → Nat} {u : iST}
def v_10_call_48 (Q : Int → iST → Prop) (x1 : Int) (x2 : Int) (y0 : Int) (u : iST) : Prop :=
  v_11_pairCell x2 y0 (fun v5 u => 
  v_7_made v5 (fun v6 u => 
  v_11_pairCell x1 v6 (fun v7 u => 
  v_7_made v7 (fun v8 u => 
  v_7_sizeOf v8 (fun v9 u => 
  br (v9 ≤ 120) (
    Q v8 u) (
    v_7_blame 4 (fun u => 
    Q (-1) u) u)) u) u) u) u) u
set_option maxRecDepth 20000 in
set_option maxHeartbeats 4000000 in
theorem f_10_call_48 (X : yX RX10 p m c cX10_call 7 s args D ca ad A) (hRf : 1 ≤ R.frames) (hRl : 30 ≤ R.locals) {Q : Int → iST → Prop} (hret : ∀ (v : Int) (u : iST) (H : Heap) (locs : List Loc) (ls : Array Slot) (pc : Nat), inR v → Q v u → yW D ca A ad s H locs u → decode cX10_call pc = .ok (.ireturn, 1) → W p l e R s m args below meth c H locs 0 0 Qf (F0 m pc ls [.int (jI v)])) {x1 x2 y0 : Int} (rx1 : inR x1) (rx2 : inR x2) (ry0 : inR y0) (hw : yW D ca A ad s H locs u) (hl : lv_has ls 7 [(0, .ref (ad 0 8)), (1, .int (jI x1)), (2, .int (jI x2))]) (h : v_10_call_48 Q x1 x2 y0 u) : W p l e R s m args below meth c H locs 0 0 Qf (F0 m 48 ls [.int (jI y0)]) := by
  have hx := X.1.1
  have hb := X.1.2.1
  unfold v_10_call_48 at h
  refine lv_istore hx hb dX10_call_48 hl (by decide) rfl (fun ls hl => ?_)
  have hl : lv_has ls 7 [(5, .int (jI y0)), (0, .ref (ad 0 8)), (1, .int (jI x1)), (2, .int (jI x2))] := hl
  refine lv_aload_n hx hb dX10_call_50 rfl (lv_at hl 1 rfl) ?_
  refine yg_10_55 X hw dX10_call_51 ?_
  refine lv_iload_n hx hb dX10_call_54 rfl (lv_at hl 2 rfl) ?_
  refine lv_aload_n hx hb dX10_call_55 rfl (lv_at hl 1 rfl) ?_
  refine yg_10_55 X hw dX10_call_56 ?_
  refine lv_iload_n hx hb dX10_call_59 rfl (lv_at hl 3 rfl) ?_
  refine lv_iload hx hb dX10_call_60 (lv_at hl 0 rfl) ?_
  refine ycSN (n := 2) (e_11_pairCell rx2 ry0 h) (host := "ProofHouse") rfl goodPair yD_11_pairCell.2 X hw (yNm_10_84 X.2.2.1) (ysI_in (List.mem_of_getElem? (i := 11) rfl)) statPair (Nat.le_trans (Nat.le_of_ble_eq_true rfl) hRf) (Nat.le_trans (Nat.le_of_ble_eq_true rfl) hRl) rfl hl.1 (Nat.le_of_ble_eq_true rfl) rfl dX10_call_62 (fun v5 u H locs rv5 h hw => ?_)
  refine ycI (n := 1) (e_7_made rv5 h) 7 6 (r := (RX7, TX7, 9)) rfl yG_10_88 yD_7_made X hw rfl yGo_7 (Nat.le_trans (Nat.le_of_ble_eq_true rfl) hRf) (Nat.le_trans (Nat.le_of_ble_eq_true rfl) hRl) rfl hl.1 (Nat.le_of_ble_eq_true rfl) rfl dX10_call_65 (fun v6 u H locs rv6 h hw => ?_)
  refine ycSN (n := 2) (e_11_pairCell rx1 rv6 h) (host := "ProofHouse") rfl goodPair yD_11_pairCell.2 X hw (yNm_10_84 X.2.2.1) (ysI_in (List.mem_of_getElem? (i := 11) rfl)) statPair (Nat.le_trans (Nat.le_of_ble_eq_true rfl) hRf) (Nat.le_trans (Nat.le_of_ble_eq_true rfl) hRl) rfl hl.1 (Nat.le_of_ble_eq_true rfl) rfl dX10_call_68 (fun v7 u H locs rv7 h hw => ?_)
  refine ycI (n := 1) (e_7_made rv7 h) 7 6 (r := (RX7, TX7, 9)) rfl yG_10_88 yD_7_made X hw rfl yGo_7 (Nat.le_trans (Nat.le_of_ble_eq_true rfl) hRf) (Nat.le_trans (Nat.le_of_ble_eq_true rfl) hRl) rfl hl.1 (Nat.le_of_ble_eq_true rfl) rfl dX10_call_71 (fun v8 u H locs rv8 h hw => ?_)
  refine lv_istore hx hb dX10_call_74 hl (by decide) rfl (fun ls hl => ?_)
  have hl : lv_has ls 7 [(6, .int (jI v8)), (5, .int (jI y0)), (0, .ref (ad 0 8)), (1, .int (jI x1)), (2, .int (jI x2))] := hl
  refine lv_aload_n hx hb dX10_call_76 rfl (lv_at hl 2 rfl) ?_
  refine yg_10_55 X hw dX10_call_77 ?_
  refine lv_iload hx hb dX10_call_80 (lv_at hl 0 rfl) ?_
  refine ycI (n := 1) (e_7_sizeOf rv8 h) 7 6 (r := (RX7, TX7, 9)) rfl yG_10_96 yD_7_sizeOf X hw rfl yGo_7 (Nat.le_trans (Nat.le_of_ble_eq_true rfl) hRf) (Nat.le_trans (Nat.le_of_ble_eq_true rfl) hRl) rfl hl.1 (Nat.le_of_ble_eq_true rfl) rfl dX10_call_82 (fun v9 u H locs rv9 h hw => ?_)
  refine lv_bipush hx hb dX10_call_85 (v := jI 120) rfl ?_
  refine k_icmp_le hx hb rv9 (by decide) dX10_call_87 (tgt := 100) rfl h (fun h => ?_) (fun h => ?_)
  · refine lv_iload hx hb dX10_call_100 (lv_at hl 0 rfl) ?_
    exact hret _ _ _ _ _ _ rv8 h hw dX10_call_102
  · refine lv_aload_n hx hb dX10_call_90 rfl (lv_at hl 2 rfl) ?_
    refine yg_10_55 X hw dX10_call_91 ?_
    refine lv_iconst hx hb dX10_call_94 (v := jI 4) rfl ?_
    refine ycV (n := 1) (e_7_blame (by decide) h) 7 6 (r := (RX7, TX7, 9)) rfl yG_10_99 yD_7_blame X hw rfl yGo_7 (Nat.le_trans (Nat.le_of_ble_eq_true rfl) hRf) (Nat.le_trans (Nat.le_of_ble_eq_true rfl) hRl) rfl hl.1 (Nat.le_of_ble_eq_true rfl) rfl dX10_call_95 (fun u H locs h hw => ?_)
    refine lv_iconst hx hb dX10_call_98 (v := jI (-1)) rfl ?_
    exact hret _ _ _ _ _ _ (by decide) h hw dX10_call_99

def v_10_call_23 (Q : Int → iST → Prop) (x1 : Int) (x2 : Int) (x3 : Int) (y0 : Int) (u : iST) : Prop :=
  br (x3 ≠ (-1)) (
    v_11_pairCell x3 y0 (fun v3 u => 
    v_7_made v3 (fun v4 u => 
    v_10_call_48 Q x1 x2 v4 u) u) u) (
    v_10_call_48 Q x1 x2 y0 u)
set_option maxRecDepth 20000 in
set_option maxHeartbeats 4000000 in
theorem f_10_call_23 (X : yX RX10 p m c cX10_call 7 s args D ca ad A) (hRf : 1 ≤ R.frames) (hRl : 30 ≤ R.locals) {Q : Int → iST → Prop} (hret : ∀ (v : Int) (u : iST) (H : Heap) (locs : List Loc) (ls : Array Slot) (pc : Nat), inR v → Q v u → yW D ca A ad s H locs u → decode cX10_call pc = .ok (.ireturn, 1) → W p l e R s m args below meth c H locs 0 0 Qf (F0 m pc ls [.int (jI v)])) {x1 x2 x3 y0 : Int} (rx1 : inR x1) (rx2 : inR x2) (rx3 : inR x3) (ry0 : inR y0) (hw : yW D ca A ad s H locs u) (hl : lv_has ls 7 [(0, .ref (ad 0 8)), (1, .int (jI x1)), (2, .int (jI x2)), (3, .int (jI x3))]) (h : v_10_call_23 Q x1 x2 x3 y0 u) : W p l e R s m args below meth c H locs 0 0 Qf (F0 m 23 ls [.int (jI y0)]) := by
  have hx := X.1.1
  have hb := X.1.2.1
  unfold v_10_call_23 at h
  refine lv_istore hx hb dX10_call_23 hl (by decide) rfl (fun ls hl => ?_)
  have hl : lv_has ls 7 [(5, .int (jI y0)), (0, .ref (ad 0 8)), (1, .int (jI x1)), (2, .int (jI x2)), (3, .int (jI x3))] := hl
  refine lv_iload_n hx hb dX10_call_25 rfl (lv_at hl 4 rfl) ?_
  refine lv_iconst hx hb dX10_call_26 (v := jI (-1)) rfl ?_
  refine k_icmp_ne hx hb rx3 (by decide) dX10_call_27 (tgt := 35) rfl h (fun h => ?_) (fun h => ?_)
  · refine lv_aload_n hx hb dX10_call_35 rfl (lv_at hl 1 rfl) ?_
    refine yg_10_55 X hw dX10_call_36 ?_
    refine lv_iload_n hx hb dX10_call_39 rfl (lv_at hl 4 rfl) ?_
    refine lv_iload hx hb dX10_call_40 (lv_at hl 0 rfl) ?_
    refine ycSN (n := 2) (e_11_pairCell rx3 ry0 h) (host := "ProofHouse") rfl goodPair yD_11_pairCell.2 X hw (yNm_10_84 X.2.2.1) (ysI_in (List.mem_of_getElem? (i := 11) rfl)) statPair (Nat.le_trans (Nat.le_of_ble_eq_true rfl) hRf) (Nat.le_trans (Nat.le_of_ble_eq_true rfl) hRl) rfl hl.1 (Nat.le_of_ble_eq_true rfl) rfl dX10_call_42 (fun v3 u H locs rv3 h hw => ?_)
    refine ycI (n := 1) (e_7_made rv3 h) 7 6 (r := (RX7, TX7, 9)) rfl yG_10_88 yD_7_made X hw rfl yGo_7 (Nat.le_trans (Nat.le_of_ble_eq_true rfl) hRf) (Nat.le_trans (Nat.le_of_ble_eq_true rfl) hRl) rfl hl.1 (Nat.le_of_ble_eq_true rfl) rfl dX10_call_45 (fun v4 u H locs rv4 h hw => ?_)
    exact f_10_call_48 X hRf hRl hret rx1 rx2 rv4 hw (lv_sub hl [1, 2, 3] rfl) h
  · refine lv_iload hx hb dX10_call_30 (lv_at hl 0 rfl) ?_
    refine lv_goto hx hb dX10_call_32 (tgt := 48) rfl ?_
    exact f_10_call_48 X hRf hRl hret rx1 rx2 ry0 hw (lv_sub hl [1, 2, 3] rfl) h

def v_10_call (a0 : Int) (a1 : Int) (a2 : Int) (a3 : Int) (Q : Int → iST → Prop) (u : iST) : Prop :=
  br (a3 ≠ (-1)) (
    v_11_pairCell a3 0 (fun v1 u => 
    v_7_made v1 (fun v2 u => 
    v_10_call_23 Q a0 a1 a2 v2 u) u) u) (
    v_10_call_23 Q a0 a1 a2 0 u)
set_option maxRecDepth 20000 in
set_option maxHeartbeats 4000000 in
theorem f_10_call_s (X : yX RX10 p m c cX10_call 7 s args D ca ad A) (hRf : 1 ≤ R.frames) (hRl : 30 ≤ R.locals) {Q : Int → iST → Prop} (hret : ∀ (v : Int) (u : iST) (H : Heap) (locs : List Loc) (ls : Array Slot) (pc : Nat), inR v → Q v u → yW D ca A ad s H locs u → decode cX10_call pc = .ok (.ireturn, 1) → W p l e R s m args below meth c H locs 0 0 Qf (F0 m pc ls [.int (jI v)])) {a0 a1 a2 a3 : Int} (ra0 : inR a0) (ra1 : inR a1) (ra2 : inR a2) (ra3 : inR a3) (hw : yW D ca A ad s H locs u) (hl : lv_has ls 7 [(0, .ref (ad 0 8)), (1, .int (jI a0)), (2, .int (jI a1)), (3, .int (jI a2)), (4, .int (jI a3))]) (h : v_10_call a0 a1 a2 a3 Q u) : W p l e R s m args below meth c H locs 0 0 Qf (F0 m 0 ls []) := by
  have hx := X.1.1
  have hb := X.1.2.1
  unfold v_10_call at h
  refine lv_iload hx hb dX10_call_0 (lv_at hl 4 rfl) ?_
  refine lv_iconst hx hb dX10_call_2 (v := jI (-1)) rfl ?_
  refine k_icmp_ne hx hb ra3 (by decide) dX10_call_3 (tgt := 10) rfl h (fun h => ?_) (fun h => ?_)
  · refine lv_aload_n hx hb dX10_call_10 rfl (lv_at hl 0 rfl) ?_
    refine yg_10_55 X hw dX10_call_11 ?_
    refine lv_iload hx hb dX10_call_14 (lv_at hl 4 rfl) ?_
    refine lv_iconst hx hb dX10_call_16 (v := jI 0) rfl ?_
    refine ycSN (n := 2) (e_11_pairCell ra3 (by decide) h) (host := "ProofHouse") rfl goodPair yD_11_pairCell.2 X hw (yNm_10_84 X.2.2.1) (ysI_in (List.mem_of_getElem? (i := 11) rfl)) statPair (Nat.le_trans (Nat.le_of_ble_eq_true rfl) hRf) (Nat.le_trans (Nat.le_of_ble_eq_true rfl) hRl) rfl hl.1 (Nat.le_of_ble_eq_true rfl) rfl dX10_call_17 (fun v1 u H locs rv1 h hw => ?_)
    refine ycI (n := 1) (e_7_made rv1 h) 7 6 (r := (RX7, TX7, 9)) rfl yG_10_88 yD_7_made X hw rfl yGo_7 (Nat.le_trans (Nat.le_of_ble_eq_true rfl) hRf) (Nat.le_trans (Nat.le_of_ble_eq_true rfl) hRl) rfl hl.1 (Nat.le_of_ble_eq_true rfl) rfl dX10_call_20 (fun v2 u H locs rv2 h hw => ?_)
    exact f_10_call_23 X hRf hRl hret ra0 ra1 ra2 rv2 hw (lv_sub hl [0, 1, 2, 3] rfl) h
  · refine lv_iconst hx hb dX10_call_6 (v := jI 0) rfl ?_
    refine lv_goto hx hb dX10_call_7 (tgt := 23) rfl ?_
    exact f_10_call_23 X hRf hRl hret ra0 ra1 ra2 (by decide) hw (lv_sub hl [0, 1, 2, 3] rfl) h

end
theorem e_10_call {l : Launch} {a0 : Int} {a1 : Int} {a2 : Int} {a3 : Int} (ra0 : inR a0) (ra1 : inR a1) (ra2 : inR a2) (ra3 : inR a3) {Q : Int → iST → Prop} {u : iST} (h : v_10_call a0 a1 a2 a3 Q u) : yMI l yX10_call (.code yX10_call cX10_call 7 (some .int) :: wsN) { frames := 1, cells := 0, slots := 0, locals := 30 } (fun ad => [.ref (ad 0 8), .int (jI a0), .int (jI a1), .int (jI a2), .int (jI a3)]) Q u := yMI_of (own := RX10) rfl (by decide +kernel) (fun _ => Nat.le_of_ble_eq_true rfl) (fun X hRf hRl hret hw hl => f_10_call_s X hRf hRl hret ra0 ra1 ra2 ra3 hw hl h)

/-! ProofHouse$Terms.negated -/
theorem dX10_negated_0 : decode cX10_negated 0 = .ok (.aload_n 0, 1) := by decide +kernel
theorem dX10_negated_1 : decode cX10_negated 1 = .ok (.getfield 55, 3) := by decide +kernel
theorem dX10_negated_4 : decode cX10_negated 4 = .ok (.iload_n 1, 1) := by decide +kernel
theorem dX10_negated_5 : decode cX10_negated 5 = .ok (.bipush 16, 2) := by decide +kernel
theorem dX10_negated_7 : decode cX10_negated 7 = .ok (.invokevirtual 139, 3) := by decide +kernel
theorem dX10_negated_10 : decode cX10_negated 10 = .ok (.ifCond .eq 13, 3) := by decide +kernel
theorem dX10_negated_13 : decode cX10_negated 13 = .ok (.aload_n 0, 1) := by decide +kernel
theorem dX10_negated_14 : decode cX10_negated 14 = .ok (.getfield 55, 3) := by decide +kernel
theorem dX10_negated_17 : decode cX10_negated 17 = .ok (.iload_n 1, 1) := by decide +kernel
theorem dX10_negated_18 : decode cX10_negated 18 = .ok (.iconst 1, 1) := by decide +kernel
theorem dX10_negated_19 : decode cX10_negated 19 = .ok (.invokevirtual 133, 3) := by decide +kernel
theorem dX10_negated_22 : decode cX10_negated 22 = .ok (.ireturn, 1) := by decide +kernel
theorem dX10_negated_23 : decode cX10_negated 23 = .ok (.aload_n 0, 1) := by decide +kernel
theorem dX10_negated_24 : decode cX10_negated 24 = .ok (.getfield 55, 3) := by decide +kernel
theorem dX10_negated_27 : decode cX10_negated 27 = .ok (.iload_n 1, 1) := by decide +kernel
theorem dX10_negated_28 : decode cX10_negated 28 = .ok (.invokevirtual 142, 3) := by decide +kernel
theorem dX10_negated_31 : decode cX10_negated 31 = .ok (.ifCond .eq 13, 3) := by decide +kernel
theorem dX10_negated_34 : decode cX10_negated 34 = .ok (.iload_n 1, 1) := by decide +kernel
theorem dX10_negated_35 : decode cX10_negated 35 = .ok (.ifCond .ne 7, 3) := by decide +kernel
theorem dX10_negated_38 : decode cX10_negated 38 = .ok (.iconst 1, 1) := by decide +kernel
theorem dX10_negated_39 : decode cX10_negated 39 = .ok (.goto 4, 3) := by decide +kernel
theorem dX10_negated_42 : decode cX10_negated 42 = .ok (.iconst 0, 1) := by decide +kernel
theorem dX10_negated_43 : decode cX10_negated 43 = .ok (.ireturn, 1) := by decide +kernel
theorem dX10_negated_44 : decode cX10_negated 44 = .ok (.aload_n 0, 1) := by decide +kernel
theorem dX10_negated_45 : decode cX10_negated 45 = .ok (.bipush 16, 2) := by decide +kernel
theorem dX10_negated_47 : decode cX10_negated 47 = .ok (.iload_n 1, 1) := by decide +kernel
theorem dX10_negated_48 : decode cX10_negated 48 = .ok (.iconst (-1), 1) := by decide +kernel
theorem dX10_negated_49 : decode cX10_negated 49 = .ok (.iconst (-1), 1) := by decide +kernel
theorem dX10_negated_50 : decode cX10_negated 50 = .ok (.invokevirtual 145, 3) := by decide +kernel
theorem dX10_negated_53 : decode cX10_negated 53 = .ok (.ireturn, 1) := by decide +kernel

section
variable {p : Program} {l : Launch} {e : Env} {R : Room} {s : State} {m : MethodId} {args : Array Value} {below : List Frame} {meth : Method} {c : Code} {H : Heap} {locs : List Loc} {Qf : State → Prop}
variable {ls : Array Slot} {D : va_G} {ca : Nat → ClassId} {A : Nat → Prop} {ad : Nat → Nat → Nat} {u : iST}
def v_10_negated (a0 : Int) (Q : Int → iST → Prop) (u : iST) : Prop :=
  v_7_isCallOf a0 16 (fun v1 u => 
  br (v1 = 0) (
    v_7_isConstant a0 (fun v2 u => 
    br (v2 = 0) (
      v_10_call 16 a0 (-1) (-1) (fun v3 u => 
      Q v3 u) u) (
      br (a0 ≠ 0) (
        Q 0 u) (
        Q 1 u))) u) (
    v_7_item a0 1 (fun v4 u => 
    Q v4 u) u)) u
set_option maxRecDepth 20000 in
set_option maxHeartbeats 4000000 in
theorem f_10_negated_s (X : yX RX10 p m c cX10_negated 2 s args D ca ad A) (hRf : 2 ≤ R.frames) (hRl : 56 ≤ R.locals) {Q : Int → iST → Prop} (hret : ∀ (v : Int) (u : iST) (H : Heap) (locs : List Loc) (ls : Array Slot) (pc : Nat), inR v → Q v u → yW D ca A ad s H locs u → decode cX10_negated pc = .ok (.ireturn, 1) → W p l e R s m args below meth c H locs 0 0 Qf (F0 m pc ls [.int (jI v)])) {a0 : Int} (ra0 : inR a0) (hw : yW D ca A ad s H locs u) (hl : lv_has ls 2 [(0, .ref (ad 0 8)), (1, .int (jI a0))]) (h : v_10_negated a0 Q u) : W p l e R s m args below meth c H locs 0 0 Qf (F0 m 0 ls []) := by
  have hx := X.1.1
  have hb := X.1.2.1
  unfold v_10_negated at h
  refine lv_aload_n hx hb dX10_negated_0 rfl (lv_at hl 0 rfl) ?_
  refine yg_10_55 X hw dX10_negated_1 ?_
  refine lv_iload_n hx hb dX10_negated_4 rfl (lv_at hl 1 rfl) ?_
  refine lv_bipush hx hb dX10_negated_5 (v := jI 16) rfl ?_
  refine ycI (n := 2) (e_7_isCallOf ra0 (by decide) h) 7 6 (r := (RX7, TX7, 9)) rfl yG_10_139 yD_7_isCallOf X hw rfl yGo_7 (Nat.le_trans (Nat.le_of_ble_eq_true rfl) hRf) (Nat.le_trans (Nat.le_of_ble_eq_true rfl) hRl) rfl hl.1 (Nat.le_of_ble_eq_true rfl) rfl dX10_negated_7 (fun v1 u H locs rv1 h hw => ?_)
  refine k_if_eq hx hb rv1 dX10_negated_10 (tgt := 23) rfl h (fun h => ?_) (fun h => ?_)
  · refine lv_aload_n hx hb dX10_negated_23 rfl (lv_at hl 0 rfl) ?_
    refine yg_10_55 X hw dX10_negated_24 ?_
    refine lv_iload_n hx hb dX10_negated_27 rfl (lv_at hl 1 rfl) ?_
    refine ycI (n := 1) (e_7_isConstant ra0 h) 7 6 (r := (RX7, TX7, 9)) rfl yG_10_142 yD_7_isConstant X hw rfl yGo_7 (Nat.le_trans (Nat.le_of_ble_eq_true rfl) hRf) (Nat.le_trans (Nat.le_of_ble_eq_true rfl) hRl) rfl hl.1 (Nat.le_of_ble_eq_true rfl) rfl dX10_negated_28 (fun v2 u H locs rv2 h hw => ?_)
    refine k_if_eq hx hb rv2 dX10_negated_31 (tgt := 44) rfl h (fun h => ?_) (fun h => ?_)
    · refine lv_aload_n hx hb dX10_negated_44 rfl (lv_at hl 0 rfl) ?_
      refine lv_bipush hx hb dX10_negated_45 (v := jI 16) rfl ?_
      refine lv_iload_n hx hb dX10_negated_47 rfl (lv_at hl 1 rfl) ?_
      refine lv_iconst hx hb dX10_negated_48 (v := jI (-1)) rfl ?_
      refine lv_iconst hx hb dX10_negated_49 (v := jI (-1)) rfl ?_
      refine ycI (n := 4) (e_10_call (by decide) ra0 (by decide) (by decide) h) 10 8 (r := (RX10, TX10, 16)) rfl yG_10_145 yD_10_call X hw rfl yGo_10 (Nat.le_trans (Nat.le_of_ble_eq_true rfl) hRf) (Nat.le_trans (Nat.le_of_ble_eq_true rfl) hRl) rfl hl.1 (Nat.le_of_ble_eq_true rfl) rfl dX10_negated_50 (fun v3 u H locs rv3 h hw => ?_)
      exact hret _ _ _ _ _ _ rv3 h hw dX10_negated_53
    · refine lv_iload_n hx hb dX10_negated_34 rfl (lv_at hl 1 rfl) ?_
      refine k_if_ne hx hb ra0 dX10_negated_35 (tgt := 42) rfl h (fun h => ?_) (fun h => ?_)
      · refine lv_iconst hx hb dX10_negated_42 (v := jI 0) rfl ?_
        exact hret _ _ _ _ _ _ (by decide) h hw dX10_negated_43
      · refine lv_iconst hx hb dX10_negated_38 (v := jI 1) rfl ?_
        refine lv_goto hx hb dX10_negated_39 (tgt := 43) rfl ?_
        exact hret _ _ _ _ _ _ (by decide) h hw dX10_negated_43
  · refine lv_aload_n hx hb dX10_negated_13 rfl (lv_at hl 0 rfl) ?_
    refine yg_10_55 X hw dX10_negated_14 ?_
    refine lv_iload_n hx hb dX10_negated_17 rfl (lv_at hl 1 rfl) ?_
    refine lv_iconst hx hb dX10_negated_18 (v := jI 1) rfl ?_
    refine ycI (n := 2) (e_7_item ra0 (by decide) h) 7 6 (r := (RX7, TX7, 9)) rfl yG_10_133 yD_7_item X hw rfl yGo_7 (Nat.le_trans (Nat.le_of_ble_eq_true rfl) hRf) (Nat.le_trans (Nat.le_of_ble_eq_true rfl) hRl) rfl hl.1 (Nat.le_of_ble_eq_true rfl) rfl dX10_negated_19 (fun v4 u H locs rv4 h hw => ?_)
    exact hret _ _ _ _ _ _ rv4 h hw dX10_negated_22

end
theorem e_10_negated {l : Launch} {a0 : Int} (ra0 : inR a0) {Q : Int → iST → Prop} {u : iST} (h : v_10_negated a0 Q u) : yMI l yX10_negated (.code yX10_negated cX10_negated 2 (some .int) :: wsN) { frames := 2, cells := 0, slots := 0, locals := 56 } (fun ad => [.ref (ad 0 8), .int (jI a0)]) Q u := yMI_of (own := RX10) rfl (by decide +kernel) (fun _ => Nat.le_of_ble_eq_true rfl) (fun X hRf hRl hret hw hl => f_10_negated_s X hRf hRl hret ra0 hw hl h)

/-! ProofHouse$Proofs.joinEqual -/
theorem dX3_joinEqual_0 : decode cX3_joinEqual 0 = .ok (.aload_n 0, 1) := by decide +kernel
theorem dX3_joinEqual_1 : decode cX3_joinEqual 1 = .ok (.getfield 45, 3) := by decide +kernel
theorem dX3_joinEqual_4 : decode cX3_joinEqual 4 = .ok (.aload_n 1, 1) := by decide +kernel
theorem dX3_joinEqual_5 : decode cX3_joinEqual 5 = .ok (.aload_n 0, 1) := by decide +kernel
theorem dX3_joinEqual_6 : decode cX3_joinEqual 6 = .ok (.getfield 45, 3) := by decide +kernel
theorem dX3_joinEqual_9 : decode cX3_joinEqual 9 = .ok (.iconst 4, 1) := by decide +kernel
theorem dX3_joinEqual_10 : decode cX3_joinEqual 10 = .ok (.iload_n 2, 1) := by decide +kernel
theorem dX3_joinEqual_11 : decode cX3_joinEqual 11 = .ok (.iload_n 3, 1) := by decide +kernel
theorem dX3_joinEqual_12 : decode cX3_joinEqual 12 = .ok (.iconst (-1), 1) := by decide +kernel
theorem dX3_joinEqual_13 : decode cX3_joinEqual 13 = .ok (.invokevirtual 202, 3) := by decide +kernel
theorem dX3_joinEqual_16 : decode cX3_joinEqual 16 = .ok (.invokevirtual 183, 3) := by decide +kernel
theorem dX3_joinEqual_19 : decode cX3_joinEqual 19 = .ok (.return_, 1) := by decide +kernel

section
variable {p : Program} {l : Launch} {e : Env} {R : Room} {s : State} {m : MethodId} {args : Array Value} {below : List Frame} {meth : Method} {c : Code} {H : Heap} {locs : List Loc} {Qf : State → Prop}
variable {ls : Array Slot} {D : va_G} {ca : Nat → ClassId} {A : Nat → Prop} {ad : Nat → Nat → Nat} {u : iST}
def v_3_joinEqual (a0 : Int) (a1 : Int) (a2 : Int) (Q : iST → Prop) (u : iST) : Prop :=
  v_10_call 4 a1 a2 (-1) (fun v1 u => 
  v_10_join a0 v1 (fun u => 
  Q u) u) u
set_option maxRecDepth 20000 in
set_option maxHeartbeats 4000000 in
theorem f_3_joinEqual_s (X : yX RX3 p m c cX3_joinEqual 4 s args D ca ad A) (hRf : 2 ≤ R.frames) (hRl : 56 ≤ R.locals) {Q : iST → Prop} (hret : ∀ (u : iST) (H : Heap) (locs : List Loc) (ls : Array Slot) (pc : Nat), Q u → yW D ca A ad s H locs u → decode cX3_joinEqual pc = .ok (.return_, 1) → W p l e R s m args below meth c H locs 0 0 Qf (F0 m pc ls [])) {a0 a1 a2 : Int} (ra0 : (0 ≤ a0 ∧ a0 < 408)) (ra1 : inR a1) (ra2 : inR a2) (hw : yW D ca A ad s H locs u) (hl : lv_has ls 4 [(0, .ref (ad 0 2)), (1, .ref (ad 4 a0.toNat)), (2, .int (jI a1)), (3, .int (jI a2))]) (h : v_3_joinEqual a0 a1 a2 Q u) : W p l e R s m args below meth c H locs 0 0 Qf (F0 m 0 ls []) := by
  have hx := X.1.1
  have hb := X.1.2.1
  unfold v_3_joinEqual at h
  refine lv_aload_n hx hb dX3_joinEqual_0 rfl (lv_at hl 0 rfl) ?_
  refine yg_3_45 X hw dX3_joinEqual_1 ?_
  refine lv_aload_n hx hb dX3_joinEqual_4 rfl (lv_at hl 1 rfl) ?_
  refine lv_aload_n hx hb dX3_joinEqual_5 rfl (lv_at hl 0 rfl) ?_
  refine yg_3_45 X hw dX3_joinEqual_6 ?_
  refine lv_iconst hx hb dX3_joinEqual_9 (v := jI 4) rfl ?_
  refine lv_iload_n hx hb dX3_joinEqual_10 rfl (lv_at hl 2 rfl) ?_
  refine lv_iload_n hx hb dX3_joinEqual_11 rfl (lv_at hl 3 rfl) ?_
  refine lv_iconst hx hb dX3_joinEqual_12 (v := jI (-1)) rfl ?_
  refine ycI (n := 4) (e_10_call (by decide) ra1 ra2 (by decide) h) 10 8 (r := (RX10, TX10, 16)) rfl yG_3_202 yD_10_call X hw rfl yGo_10 (Nat.le_trans (Nat.le_of_ble_eq_true rfl) hRf) (Nat.le_trans (Nat.le_of_ble_eq_true rfl) hRl) rfl hl.1 (Nat.le_of_ble_eq_true rfl) rfl dX3_joinEqual_13 (fun v1 u H locs rv1 h hw => ?_)
  refine ycV (n := 2) (e_10_join ra0 rv1 h) 10 8 (r := (RX10, TX10, 16)) rfl yG_3_183 yD_10_join X hw rfl yGo_10 (Nat.le_trans (Nat.le_of_ble_eq_true rfl) hRf) (Nat.le_trans (Nat.le_of_ble_eq_true rfl) hRl) rfl hl.1 (Nat.le_of_ble_eq_true rfl) rfl dX3_joinEqual_16 (fun u H locs h hw => ?_)
  exact hret _ _ _ _ _ h hw dX3_joinEqual_19

end
theorem e_3_joinEqual {l : Launch} {a0 : Int} {a1 : Int} {a2 : Int} (ra0 : (0 ≤ a0 ∧ a0 < 408)) (ra1 : inR a1) (ra2 : inR a2) {Q : iST → Prop} {u : iST} (h : v_3_joinEqual a0 a1 a2 Q u) : yMV l yX3_joinEqual (.code yX3_joinEqual cX3_joinEqual 4 none :: wsN) { frames := 2, cells := 0, slots := 0, locals := 56 } (fun ad => [.ref (ad 0 2), .ref (ad 4 a0.toNat), .int (jI a1), .int (jI a2)]) Q u := yMV_of (own := RX3) rfl (by decide +kernel) (fun _ => Nat.le_of_ble_eq_true rfl) (fun X hRf hRl hret hw hl => f_3_joinEqual_s X hRf hRl hret ra0 ra1 ra2 hw hl h)

/-! ProofHouse$Room.constantOf -/
theorem dX7_constantOf_0 : decode cX7_constantOf 0 = .ok (.iload_n 1, 1) := by decide +kernel
theorem dX7_constantOf_1 : decode cX7_constantOf 1 = .ok (.iconst 1, 1) := by decide +kernel
theorem dX7_constantOf_2 : decode cX7_constantOf 2 = .ok (.if_icmp .le 11, 3) := by decide +kernel
theorem dX7_constantOf_5 : decode cX7_constantOf 5 = .ok (.aload_n 0, 1) := by decide +kernel
theorem dX7_constantOf_6 : decode cX7_constantOf 6 = .ok (.iload_n 1, 1) := by decide +kernel
theorem dX7_constantOf_7 : decode cX7_constantOf 7 = .ok (.invokevirtual 88, 3) := by decide +kernel
theorem dX7_constantOf_10 : decode cX7_constantOf 10 = .ok (.ifCond .eq 5, 3) := by decide +kernel
theorem dX7_constantOf_13 : decode cX7_constantOf 13 = .ok (.iload_n 1, 1) := by decide +kernel
theorem dX7_constantOf_14 : decode cX7_constantOf 14 = .ok (.ireturn, 1) := by decide +kernel
theorem dX7_constantOf_15 : decode cX7_constantOf 15 = .ok (.aload_n 0, 1) := by decide +kernel
theorem dX7_constantOf_16 : decode cX7_constantOf 16 = .ok (.iconst 2, 1) := by decide +kernel
theorem dX7_constantOf_17 : decode cX7_constantOf 17 = .ok (.aload_n 0, 1) := by decide +kernel
theorem dX7_constantOf_18 : decode cX7_constantOf 18 = .ok (.iload_n 1, 1) := by decide +kernel
theorem dX7_constantOf_19 : decode cX7_constantOf 19 = .ok (.iconst 0, 1) := by decide +kernel
theorem dX7_constantOf_20 : decode cX7_constantOf 20 = .ok (.invokestatic 92, 3) := by decide +kernel
theorem dX7_constantOf_23 : decode cX7_constantOf 23 = .ok (.invokevirtual 71, 3) := by decide +kernel
theorem dX7_constantOf_26 : decode cX7_constantOf 26 = .ok (.invokestatic 92, 3) := by decide +kernel
theorem dX7_constantOf_29 : decode cX7_constantOf 29 = .ok (.invokevirtual 71, 3) := by decide +kernel
theorem dX7_constantOf_32 : decode cX7_constantOf 32 = .ok (.ireturn, 1) := by decide +kernel

section
variable {p : Program} {l : Launch} {e : Env} {R : Room} {s : State} {m : MethodId} {args : Array Value} {below : List Frame} {meth : Method} {c : Code} {H : Heap} {locs : List Loc} {Qf : State → Prop}
variable {ls : Array Slot} {D : va_G} {ca : Nat → ClassId} {A : Nat → Prop} {ad : Nat → Nat → Nat} {u : iST}
def v_7_constantOf (a0 : Int) (Q : Int → iST → Prop) (u : iST) : Prop :=
  br (a0 ≤ 1) (
    Q a0 u) (
    v_7_isNatural a0 (fun v1 u => 
    br (v1 = 0) (
      v_11_pairCell a0 0 (fun v2 u => 
      v_7_made v2 (fun v3 u => 
      v_11_pairCell 2 v3 (fun v4 u => 
      v_7_made v4 (fun v5 u => 
      Q v5 u) u) u) u) u) (
      Q a0 u)) u)
set_option maxRecDepth 20000 in
set_option maxHeartbeats 4000000 in
theorem f_7_constantOf_s (X : yX RX7 p m c cX7_constantOf 2 s args D ca ad A) (hRf : 1 ≤ R.frames) (hRl : 30 ≤ R.locals) {Q : Int → iST → Prop} (hret : ∀ (v : Int) (u : iST) (H : Heap) (locs : List Loc) (ls : Array Slot) (pc : Nat), inR v → Q v u → yW D ca A ad s H locs u → decode cX7_constantOf pc = .ok (.ireturn, 1) → W p l e R s m args below meth c H locs 0 0 Qf (F0 m pc ls [.int (jI v)])) {a0 : Int} (ra0 : inR a0) (hw : yW D ca A ad s H locs u) (hl : lv_has ls 2 [(0, .ref (ad 0 6)), (1, .int (jI a0))]) (h : v_7_constantOf a0 Q u) : W p l e R s m args below meth c H locs 0 0 Qf (F0 m 0 ls []) := by
  have hx := X.1.1
  have hb := X.1.2.1
  unfold v_7_constantOf at h
  refine lv_iload_n hx hb dX7_constantOf_0 rfl (lv_at hl 1 rfl) ?_
  refine lv_iconst hx hb dX7_constantOf_1 (v := jI 1) rfl ?_
  refine k_icmp_le hx hb ra0 (by decide) dX7_constantOf_2 (tgt := 13) rfl h (fun h => ?_) (fun h => ?_)
  · refine lv_iload_n hx hb dX7_constantOf_13 rfl (lv_at hl 1 rfl) ?_
    exact hret _ _ _ _ _ _ ra0 h hw dX7_constantOf_14
  · refine lv_aload_n hx hb dX7_constantOf_5 rfl (lv_at hl 0 rfl) ?_
    refine lv_iload_n hx hb dX7_constantOf_6 rfl (lv_at hl 1 rfl) ?_
    refine ycI (n := 1) (e_7_isNatural ra0 h) 7 6 (r := (RX7, TX7, 9)) rfl yG_7_88 yD_7_isNatural X hw rfl yGo_7 (Nat.le_trans (Nat.le_of_ble_eq_true rfl) hRf) (Nat.le_trans (Nat.le_of_ble_eq_true rfl) hRl) rfl hl.1 (Nat.le_of_ble_eq_true rfl) rfl dX7_constantOf_7 (fun v1 u H locs rv1 h hw => ?_)
    refine k_if_eq hx hb rv1 dX7_constantOf_10 (tgt := 15) rfl h (fun h => ?_) (fun h => ?_)
    · refine lv_aload_n hx hb dX7_constantOf_15 rfl (lv_at hl 0 rfl) ?_
      refine lv_iconst hx hb dX7_constantOf_16 (v := jI 2) rfl ?_
      refine lv_aload_n hx hb dX7_constantOf_17 rfl (lv_at hl 0 rfl) ?_
      refine lv_iload_n hx hb dX7_constantOf_18 rfl (lv_at hl 1 rfl) ?_
      refine lv_iconst hx hb dX7_constantOf_19 (v := jI 0) rfl ?_
      refine ycSN (n := 2) (e_11_pairCell ra0 (by decide) h) (host := "ProofHouse") rfl goodPair yD_11_pairCell.2 X hw (yNm_7_92 X.2.2.1) (ysI_in (List.mem_of_getElem? (i := 11) rfl)) statPair (Nat.le_trans (Nat.le_of_ble_eq_true rfl) hRf) (Nat.le_trans (Nat.le_of_ble_eq_true rfl) hRl) rfl hl.1 (Nat.le_of_ble_eq_true rfl) rfl dX7_constantOf_20 (fun v2 u H locs rv2 h hw => ?_)
      refine ycI (n := 1) (e_7_made rv2 h) 7 6 (r := (RX7, TX7, 9)) rfl yG_7_71 yD_7_made X hw rfl yGo_7 (Nat.le_trans (Nat.le_of_ble_eq_true rfl) hRf) (Nat.le_trans (Nat.le_of_ble_eq_true rfl) hRl) rfl hl.1 (Nat.le_of_ble_eq_true rfl) rfl dX7_constantOf_23 (fun v3 u H locs rv3 h hw => ?_)
      refine ycSN (n := 2) (e_11_pairCell (by decide) rv3 h) (host := "ProofHouse") rfl goodPair yD_11_pairCell.2 X hw (yNm_7_92 X.2.2.1) (ysI_in (List.mem_of_getElem? (i := 11) rfl)) statPair (Nat.le_trans (Nat.le_of_ble_eq_true rfl) hRf) (Nat.le_trans (Nat.le_of_ble_eq_true rfl) hRl) rfl hl.1 (Nat.le_of_ble_eq_true rfl) rfl dX7_constantOf_26 (fun v4 u H locs rv4 h hw => ?_)
      refine ycI (n := 1) (e_7_made rv4 h) 7 6 (r := (RX7, TX7, 9)) rfl yG_7_71 yD_7_made X hw rfl yGo_7 (Nat.le_trans (Nat.le_of_ble_eq_true rfl) hRf) (Nat.le_trans (Nat.le_of_ble_eq_true rfl) hRl) rfl hl.1 (Nat.le_of_ble_eq_true rfl) rfl dX7_constantOf_29 (fun v5 u H locs rv5 h hw => ?_)
      exact hret _ _ _ _ _ _ rv5 h hw dX7_constantOf_32
    · refine lv_iload_n hx hb dX7_constantOf_13 rfl (lv_at hl 1 rfl) ?_
      exact hret _ _ _ _ _ _ ra0 h hw dX7_constantOf_14

end
theorem e_7_constantOf {l : Launch} {a0 : Int} (ra0 : inR a0) {Q : Int → iST → Prop} {u : iST} (h : v_7_constantOf a0 Q u) : yMI l yX7_constantOf (.code yX7_constantOf cX7_constantOf 2 (some .int) :: wsN) { frames := 1, cells := 0, slots := 0, locals := 30 } (fun ad => [.ref (ad 0 6), .int (jI a0)]) Q u := yMI_of (own := RX7) rfl (by decide +kernel) (fun _ => Nat.le_of_ble_eq_true rfl) (fun X hRf hRl hret hw hl => f_7_constantOf_s X hRf hRl hret ra0 hw hl h)
