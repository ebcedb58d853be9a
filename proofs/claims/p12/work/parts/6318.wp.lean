/-! ProofHouse$Proofs.goThrough -/
theorem dX3_goThrough_0 : decode cX3_goThrough 0 = .ok (.aload_n 0, 1) := by decide +kernel
theorem dX3_goThrough_1 : decode cX3_goThrough 1 = .ok (.iconst 0, 1) := by decide +kernel
theorem dX3_goThrough_2 : decode cX3_goThrough 2 = .ok (.putfield 16, 3) := by decide +kernel
theorem dX3_goThrough_5 : decode cX3_goThrough 5 = .ok (.aload_n 0, 1) := by decide +kernel
theorem dX3_goThrough_6 : decode cX3_goThrough 6 = .ok (.iconst 0, 1) := by decide +kernel
theorem dX3_goThrough_7 : decode cX3_goThrough 7 = .ok (.putfield 26, 3) := by decide +kernel
theorem dX3_goThrough_10 : decode cX3_goThrough 10 = .ok (.aload_n 0, 1) := by decide +kernel
theorem dX3_goThrough_11 : decode cX3_goThrough 11 = .ok (.iconst (-1), 1) := by decide +kernel
theorem dX3_goThrough_12 : decode cX3_goThrough 12 = .ok (.putfield 34, 3) := by decide +kernel
theorem dX3_goThrough_15 : decode cX3_goThrough 15 = .ok (.aload_n 0, 1) := by decide +kernel
theorem dX3_goThrough_16 : decode cX3_goThrough 16 = .ok (.iload_n 1, 1) := by decide +kernel
theorem dX3_goThrough_17 : decode cX3_goThrough 17 = .ok (.invokevirtual 57, 3) := by decide +kernel
theorem dX3_goThrough_20 : decode cX3_goThrough 20 = .ok (.iconst 0, 1) := by decide +kernel
theorem dX3_goThrough_21 : decode cX3_goThrough 21 = .ok (.istore_n 2, 1) := by decide +kernel
theorem dX3_goThrough_22 : decode cX3_goThrough 22 = .ok (.iload_n 2, 1) := by decide +kernel
theorem dX3_goThrough_23 : decode cX3_goThrough 23 = .ok (.ldc 61, 2) := by decide +kernel
theorem dX3_goThrough_25 : decode cX3_goThrough 25 = .ok (.if_icmp .ge 95, 3) := by decide +kernel
theorem dX3_goThrough_28 : decode cX3_goThrough 28 = .ok (.aload_n 0, 1) := by decide +kernel
theorem dX3_goThrough_29 : decode cX3_goThrough 29 = .ok (.getfield 16, 3) := by decide +kernel
theorem dX3_goThrough_32 : decode cX3_goThrough 32 = .ok (.ifCond .le 88, 3) := by decide +kernel
theorem dX3_goThrough_35 : decode cX3_goThrough 35 = .ok (.aload_n 0, 1) := by decide +kernel
theorem dX3_goThrough_36 : decode cX3_goThrough 36 = .ok (.getfield 34, 3) := by decide +kernel
theorem dX3_goThrough_39 : decode cX3_goThrough 39 = .ok (.iconst (-1), 1) := by decide +kernel
theorem dX3_goThrough_40 : decode cX3_goThrough 40 = .ok (.if_icmp .ne 80, 3) := by decide +kernel
theorem dX3_goThrough_43 : decode cX3_goThrough 43 = .ok (.aload_n 0, 1) := by decide +kernel
theorem dX3_goThrough_44 : decode cX3_goThrough 44 = .ok (.getfield 37, 3) := by decide +kernel
theorem dX3_goThrough_47 : decode cX3_goThrough 47 = .ok (.getfield 62, 3) := by decide +kernel
theorem dX3_goThrough_50 : decode cX3_goThrough 50 = .ok (.ifCond .ne 70, 3) := by decide +kernel
theorem dX3_goThrough_53 : decode cX3_goThrough 53 = .ok (.aload_n 0, 1) := by decide +kernel
theorem dX3_goThrough_54 : decode cX3_goThrough 54 = .ok (.getfield 13, 3) := by decide +kernel
theorem dX3_goThrough_57 : decode cX3_goThrough 57 = .ok (.aload_n 0, 1) := by decide +kernel
theorem dX3_goThrough_58 : decode cX3_goThrough 58 = .ok (.getfield 16, 3) := by decide +kernel
theorem dX3_goThrough_61 : decode cX3_goThrough 61 = .ok (.iconst 1, 1) := by decide +kernel
theorem dX3_goThrough_62 : decode cX3_goThrough 62 = .ok (.isub, 1) := by decide +kernel
theorem dX3_goThrough_63 : decode cX3_goThrough 63 = .ok (.aaload, 1) := by decide +kernel
theorem dX3_goThrough_64 : decode cX3_goThrough 64 = .ok (.astore_n 3, 1) := by decide +kernel
theorem dX3_goThrough_65 : decode cX3_goThrough 65 = .ok (.aload_n 3, 1) := by decide +kernel
theorem dX3_goThrough_66 : decode cX3_goThrough 66 = .ok (.iconst 1, 1) := by decide +kernel
theorem dX3_goThrough_67 : decode cX3_goThrough 67 = .ok (.iaload, 1) := by decide +kernel
theorem dX3_goThrough_68 : decode cX3_goThrough 68 = .ok (.ifCond .le 41, 3) := by decide +kernel
theorem dX3_goThrough_71 : decode cX3_goThrough 71 = .ok (.aload_n 0, 1) := by decide +kernel
theorem dX3_goThrough_72 : decode cX3_goThrough 72 = .ok (.getfield 37, 3) := by decide +kernel
theorem dX3_goThrough_75 : decode cX3_goThrough 75 = .ok (.aload_n 3, 1) := by decide +kernel
theorem dX3_goThrough_76 : decode cX3_goThrough 76 = .ok (.iconst 0, 1) := by decide +kernel
theorem dX3_goThrough_77 : decode cX3_goThrough 77 = .ok (.iaload, 1) := by decide +kernel
theorem dX3_goThrough_78 : decode cX3_goThrough 78 = .ok (.aload_n 3, 1) := by decide +kernel
theorem dX3_goThrough_79 : decode cX3_goThrough 79 = .ok (.iconst 2, 1) := by decide +kernel
theorem dX3_goThrough_80 : decode cX3_goThrough 80 = .ok (.iaload, 1) := by decide +kernel
theorem dX3_goThrough_81 : decode cX3_goThrough 81 = .ok (.invokevirtual 67, 3) := by decide +kernel
theorem dX3_goThrough_84 : decode cX3_goThrough 84 = .ok (.istore 4, 2) := by decide +kernel
theorem dX3_goThrough_86 : decode cX3_goThrough 86 = .ok (.aload_n 3, 1) := by decide +kernel
theorem dX3_goThrough_87 : decode cX3_goThrough 87 = .ok (.iconst 1, 1) := by decide +kernel
theorem dX3_goThrough_88 : decode cX3_goThrough 88 = .ok (.dup2, 1) := by decide +kernel
theorem dX3_goThrough_89 : decode cX3_goThrough 89 = .ok (.iaload, 1) := by decide +kernel
theorem dX3_goThrough_90 : decode cX3_goThrough 90 = .ok (.iconst 1, 1) := by decide +kernel
theorem dX3_goThrough_91 : decode cX3_goThrough 91 = .ok (.isub, 1) := by decide +kernel
theorem dX3_goThrough_92 : decode cX3_goThrough 92 = .ok (.iastore, 1) := by decide +kernel
theorem dX3_goThrough_93 : decode cX3_goThrough 93 = .ok (.aload_n 3, 1) := by decide +kernel
theorem dX3_goThrough_94 : decode cX3_goThrough 94 = .ok (.iconst 2, 1) := by decide +kernel
theorem dX3_goThrough_95 : decode cX3_goThrough 95 = .ok (.dup2, 1) := by decide +kernel
theorem dX3_goThrough_96 : decode cX3_goThrough 96 = .ok (.iaload, 1) := by decide +kernel
theorem dX3_goThrough_97 : decode cX3_goThrough 97 = .ok (.iconst 1, 1) := by decide +kernel
theorem dX3_goThrough_98 : decode cX3_goThrough 98 = .ok (.iadd, 1) := by decide +kernel
theorem dX3_goThrough_99 : decode cX3_goThrough 99 = .ok (.iastore, 1) := by decide +kernel
theorem dX3_goThrough_100 : decode cX3_goThrough 100 = .ok (.aload_n 0, 1) := by decide +kernel
theorem dX3_goThrough_101 : decode cX3_goThrough 101 = .ok (.iload 4, 2) := by decide +kernel
theorem dX3_goThrough_103 : decode cX3_goThrough 103 = .ok (.invokevirtual 57, 3) := by decide +kernel
theorem dX3_goThrough_106 : decode cX3_goThrough 106 = .ok (.goto 8, 3) := by decide +kernel
theorem dX3_goThrough_109 : decode cX3_goThrough 109 = .ok (.aload_n 0, 1) := by decide +kernel
theorem dX3_goThrough_110 : decode cX3_goThrough 110 = .ok (.aload_n 3, 1) := by decide +kernel
theorem dX3_goThrough_111 : decode cX3_goThrough 111 = .ok (.invokevirtual 71, 3) := by decide +kernel
theorem dX3_goThrough_114 : decode cX3_goThrough 114 = .ok (.iinc 2 1, 3) := by decide +kernel
theorem dX3_goThrough_117 : decode cX3_goThrough 117 = .ok (.goto (-95), 3) := by decide +kernel
theorem dX3_goThrough_120 : decode cX3_goThrough 120 = .ok (.return_, 1) := by decide +kernel

section
variable {p : Program} {l : Launch} {e : Env} {R : Room} {s : State} {m : MethodId} {args : Array Value} {below : List Frame} {meth : Method} {c : Code} {H : Heap} {locs : List Loc} {Qf : State → Prop}
variable {ls : Array Slot} {D : va_G} {ca : Nat → ClassId} {A : Nat → Prop} {ad : Nat → Nat → Nat} {u : iST}
def v_3_goThrough_22b (R22 : Int → iST → Prop) (Q : iST → Prop) (x2 : Int) (u : iST) : Prop :=
  br (1000000 ≤ x2) (
    Q u) (
    rd (u.1 10) (fun v2 => 
    br (v2 ≤ 0) (
      Q u) (
      rd (u.1 12) (fun v3 => 
      br (v3 ≠ (-1)) (
        Q u) (
        rd (u.1 32) (fun v4 => 
        br (v4 ≠ 0) (
          Q u) (
          rd (u.1 10) (fun v5 => 
          ov (v5 - 1) (
          bd (v5 - 1) 40 (
          bd 1 4 (rd (u.2.1 53 (4 * (v5 - 1) + 1)) (fun v9 => 
          br (v9 ≤ 0) (
            v_3_conclude (v5 - 1) (fun u => 
            ov (x2 + 1) (
            R22 (x2 + 1) u)) u) (
            bd 0 4 (rd (u.2.1 53 (4 * (v5 - 1) + 0)) (fun v12 => 
            bd 2 4 (rd (u.2.1 53 (4 * (v5 - 1) + 2)) (fun v13 => 
            v_7_item v12 v13 (fun v14 u => 
            bd 1 4 (rd (u.2.1 53 (4 * (v5 - 1) + 1)) (fun v15 => 
            ov (v15 - 1) (
            bd 1 4 (sw (iA u 53 (4 * (v5 - 1) + 1) (v15 - 1)) (fun u => 
            bd 2 4 (rd (u.2.1 53 (4 * (v5 - 1) + 2)) (fun v17 => 
            ov (v17 + 1) (
            bd 2 4 (sw (iA u 53 (4 * (v5 - 1) + 2) (v17 + 1)) (fun u => 
            v_3_open v14 (fun u => 
            ov (x2 + 1) (
            R22 (x2 + 1) u)) u))))))))))) u)))))))))))))))))
def v_3_goThrough_22 (Q : iST → Prop) (x2 : Int) (u : iST) : Prop := ∀ R22 : Int → iST → Prop, (∀ (x2 : Int) (u : iST), v_3_goThrough_22b R22 Q x2 u → R22 x2 u) → R22 x2 u
set_option maxRecDepth 20000 in
set_option maxHeartbeats 4000000 in
theorem f_3_goThrough_22 (X : yX RX3 p m c cX3_goThrough 5 s args D ca ad A) (hRf : 6 ≤ R.frames) (hRl : 156 ≤ R.locals) {Q : iST → Prop} (hret : ∀ (u : iST) (H : Heap) (locs : List Loc) (ls : Array Slot) (pc : Nat), Q u → yW D ca A ad s H locs u → decode cX3_goThrough pc = .ok (.return_, 1) → W p l e R s m args below meth c H locs 0 0 Qf (F0 m pc ls [])) {x2 : Int} (rx2 : inR x2) (hw : yW D ca A ad s H locs u) (hl : lv_has ls 5 [(0, .ref (ad 0 2)), (2, .int (jI x2))]) (h : v_3_goThrough_22 Q x2 u) : W p l e R s m args below meth c H locs 0 0 Qf (F0 m 22 ls []) := by
  refine h (fun x2 u => ∀ (H : Heap) (locs : List Loc) (ls : Array Slot), inR x2 → yW D ca A ad s H locs u → lv_has ls 5 [(0, .ref (ad 0 2)), (2, .int (jI x2))] → W p l e R s m args below meth c H locs 0 0 Qf (F0 m 22 ls [])) ?_ H locs ls rx2 hw hl
  clear h hl hw rx2
  intro x2 u h H locs ls rx2 hw hl
  have hR22 : ∀ (x2 : Int) (u : iST) (H : Heap) (locs : List Loc) (ls : Array Slot), inR x2 → yW D ca A ad s H locs u → lv_has ls 5 [(0, .ref (ad 0 2)), (2, .int (jI x2))] → (fun (x2 : Int) u => ∀ (H : Heap) (locs : List Loc) (ls : Array Slot), inR x2 → yW D ca A ad s H locs u → lv_has ls 5 [(0, .ref (ad 0 2)), (2, .int (jI x2))] → W p l e R s m args below meth c H locs 0 0 Qf (F0 m 22 ls [])) x2 u → W p l e R s m args below meth c H locs 0 0 Qf (F0 m 22 ls []) := fun x2 u H locs ls rx2 hw hl h => h H locs ls rx2 hw hl
  have hx := X.1.1
  have hb := X.1.2.1
  unfold v_3_goThrough_22b at h
  refine lv_iload_n hx hb dX3_goThrough_22 rfl (lv_at hl 1 rfl) ?_
  refine yld 61 yK_3_61 X dX3_goThrough_23 ?_
  refine k_icmp_ge hx hb rx2 (by decide) dX3_goThrough_25 (tgt := 120) rfl h (fun h => ?_) (fun h => ?_)
  · exact hret _ _ _ _ _ h hw dX3_goThrough_120
  · refine lv_aload_n hx hb dX3_goThrough_28 rfl (lv_at hl 0 rfl) ?_
    refine yg_3_16 X hw dX3_goThrough_29 h (fun v2 rv2 h => ?_)
    refine k_if_le hx hb rv2 dX3_goThrough_32 (tgt := 120) rfl h (fun h => ?_) (fun h => ?_)
    · exact hret _ _ _ _ _ h hw dX3_goThrough_120
    · refine lv_aload_n hx hb dX3_goThrough_35 rfl (lv_at hl 0 rfl) ?_
      refine yg_3_34 X hw dX3_goThrough_36 h (fun v3 rv3 h => ?_)
      refine lv_iconst hx hb dX3_goThrough_39 (v := jI (-1)) rfl ?_
      refine k_icmp_ne hx hb rv3 (by decide) dX3_goThrough_40 (tgt := 120) rfl h (fun h => ?_) (fun h => ?_)
      · exact hret _ _ _ _ _ h hw dX3_goThrough_120
      · refine lv_aload_n hx hb dX3_goThrough_43 rfl (lv_at hl 0 rfl) ?_
        refine yg_3_37 X hw dX3_goThrough_44 ?_
        refine yg_3_62 X hw dX3_goThrough_47 h (fun v4 rv4 h => ?_)
        refine k_if_ne hx hb rv4 dX3_goThrough_50 (tgt := 120) rfl h (fun h => ?_) (fun h => ?_)
        · exact hret _ _ _ _ _ h hw dX3_goThrough_120
        · refine lv_aload_n hx hb dX3_goThrough_53 rfl (lv_at hl 0 rfl) ?_
          refine yg_3_13 X hw dX3_goThrough_54 ?_
          refine lv_aload_n hx hb dX3_goThrough_57 rfl (lv_at hl 0 rfl) ?_
          refine yg_3_16 X hw dX3_goThrough_58 h (fun v5 rv5 h => ?_)
          refine lv_iconst hx hb dX3_goThrough_61 (v := jI 1) rfl ?_
          refine k_isub hx hb dX3_goThrough_62 h (fun r6 h => ?_)
          have q7 := h
          have r8 : (0 ≤ (v5 - 1) ∧ (v5 - 1) < 40) := ⟨q7.1, by have := q7.2.1; omega⟩
          refine yx_3 X hw r6 dX3_goThrough_63 h (fun h => ?_)
          refine lv_astore_n hx hb dX3_goThrough_64 rfl hl (by decide) rfl (fun ls hl => ?_)
          have hl : lv_has ls 5 [(3, .ref (ad 9 (v5 - 1).toNat)), (0, .ref (ad 0 2)), (2, .int (jI x2))] := hl
          refine lv_aload_n hx hb dX3_goThrough_65 rfl (lv_at hl 0 rfl) ?_
          refine lv_iconst hx hb dX3_goThrough_66 (v := jI 1) rfl ?_
          refine yfl_pframes X hw r8 (by decide) dX3_goThrough_67 h (fun v9 rv9 h => ?_)
          refine k_if_le hx hb rv9 dX3_goThrough_68 (tgt := 109) rfl h (fun h => ?_) (fun h => ?_)
          · refine lv_aload_n hx hb dX3_goThrough_109 rfl (lv_at hl 1 rfl) ?_
            refine lv_aload_n hx hb dX3_goThrough_110 rfl (lv_at hl 0 rfl) ?_
            refine ycV (n := 1) (e_3_conclude r8 h) 3 2 (r := (RX3, TX3, 11)) rfl yG_3_71 yD_3_conclude X hw rfl yGo_3 (Nat.le_trans (Nat.le_of_ble_eq_true rfl) hRf) (Nat.le_trans (Nat.le_of_ble_eq_true rfl) hRl) rfl hl.1 (Nat.le_of_ble_eq_true rfl) rfl dX3_goThrough_111 (fun u H locs h hw => ?_)
            refine k_iinc (k := 2) hx hb dX3_goThrough_114 hl rfl (by decide) rfl h (fun ls r11 h hl => ?_)
            have hl : lv_has ls 5 [(2, .int (jI (x2 + 1))), (3, .ref (ad 9 (v5 - 1).toNat)), (0, .ref (ad 0 2))] := hl
            refine lv_goto hx hb dX3_goThrough_117 (tgt := 22) rfl ?_
            exact hR22 _ _ H locs ls r11 hw (lv_sub hl [2, 0] rfl) h
          · refine lv_aload_n hx hb dX3_goThrough_71 rfl (lv_at hl 1 rfl) ?_
            refine yg_3_37 X hw dX3_goThrough_72 ?_
            refine lv_aload_n hx hb dX3_goThrough_75 rfl (lv_at hl 0 rfl) ?_
            refine lv_iconst hx hb dX3_goThrough_76 (v := jI 0) rfl ?_
            refine yfl_pframes X hw r8 (by decide) dX3_goThrough_77 h (fun v12 rv12 h => ?_)
            refine lv_aload_n hx hb dX3_goThrough_78 rfl (lv_at hl 0 rfl) ?_
            refine lv_iconst hx hb dX3_goThrough_79 (v := jI 2) rfl ?_
            refine yfl_pframes X hw r8 (by decide) dX3_goThrough_80 h (fun v13 rv13 h => ?_)
            refine ycI (n := 2) (e_7_item rv12 rv13 h) 7 6 (r := (RX7, TX7, 9)) rfl yG_3_67 yD_7_item X hw rfl yGo_7 (Nat.le_trans (Nat.le_of_ble_eq_true rfl) hRf) (Nat.le_trans (Nat.le_of_ble_eq_true rfl) hRl) rfl hl.1 (Nat.le_of_ble_eq_true rfl) rfl dX3_goThrough_81 (fun v14 u H locs rv14 h hw => ?_)
            refine lv_istore hx hb dX3_goThrough_84 hl (by decide) rfl (fun ls hl => ?_)
            have hl : lv_has ls 5 [(4, .int (jI v14)), (3, .ref (ad 9 (v5 - 1).toNat)), (0, .ref (ad 0 2)), (2, .int (jI x2))] := hl
            refine lv_aload_n hx hb dX3_goThrough_86 rfl (lv_at hl 1 rfl) ?_
            refine lv_iconst hx hb dX3_goThrough_87 (v := jI 1) rfl ?_
            refine lv_dup2_11 hx hb dX3_goThrough_88 rfl rfl ?_
            refine yfl_pframes X hw r8 (by decide) dX3_goThrough_89 h (fun v15 rv15 h => ?_)
            refine lv_iconst hx hb dX3_goThrough_90 (v := jI 1) rfl ?_
            refine k_isub hx hb dX3_goThrough_91 h (fun r16 h => ?_)
            refine yft_pframes X hw r8 (by decide) r16 dX3_goThrough_92 h (fun H locs u hw h => ?_)
            refine lv_aload_n hx hb dX3_goThrough_93 rfl (lv_at hl 1 rfl) ?_
            refine lv_iconst hx hb dX3_goThrough_94 (v := jI 2) rfl ?_
            refine lv_dup2_11 hx hb dX3_goThrough_95 rfl rfl ?_
            refine yfl_pframes X hw r8 (by decide) dX3_goThrough_96 h (fun v17 rv17 h => ?_)
            refine lv_iconst hx hb dX3_goThrough_97 (v := jI 1) rfl ?_
            refine k_iadd hx hb dX3_goThrough_98 h (fun r18 h => ?_)
            refine yft_pframes X hw r8 (by decide) r18 dX3_goThrough_99 h (fun H locs u hw h => ?_)
            refine lv_aload_n hx hb dX3_goThrough_100 rfl (lv_at hl 2 rfl) ?_
            refine lv_iload hx hb dX3_goThrough_101 (lv_at hl 0 rfl) ?_
            refine ycV (n := 1) (e_3_open rv14 h) 3 2 (r := (RX3, TX3, 11)) rfl yG_3_57 yD_3_open X hw rfl yGo_3 (Nat.le_trans (Nat.le_of_ble_eq_true rfl) hRf) (Nat.le_trans (Nat.le_of_ble_eq_true rfl) hRl) rfl hl.1 (Nat.le_of_ble_eq_true rfl) rfl dX3_goThrough_103 (fun u H locs h hw => ?_)
            refine lv_goto hx hb dX3_goThrough_106 (tgt := 114) rfl ?_
            refine k_iinc (k := 3) hx hb dX3_goThrough_114 hl rfl (by decide) rfl h (fun ls r20 h hl => ?_)
            have hl : lv_has ls 5 [(2, .int (jI (x2 + 1))), (4, .int (jI v14)), (3, .ref (ad 9 (v5 - 1).toNat)), (0, .ref (ad 0 2))] := hl
            refine lv_goto hx hb dX3_goThrough_117 (tgt := 22) rfl ?_
            exact hR22 _ _ H locs ls r20 hw (lv_sub hl [3, 0] rfl) h

def v_3_goThrough (a0 : Int) (Q : iST → Prop) (u : iST) : Prop :=
  sw (iI u 10 0) (fun u => 
  sw (iI u 11 0) (fun u => 
  sw (iI u 12 (-1)) (fun u => 
  v_3_open a0 (fun u => 
  v_3_goThrough_22 Q 0 u) u)))
set_option maxRecDepth 20000 in
set_option maxHeartbeats 4000000 in
theorem f_3_goThrough_s (X : yX RX3 p m c cX3_goThrough 5 s args D ca ad A) (hRf : 6 ≤ R.frames) (hRl : 156 ≤ R.locals) {Q : iST → Prop} (hret : ∀ (u : iST) (H : Heap) (locs : List Loc) (ls : Array Slot) (pc : Nat), Q u → yW D ca A ad s H locs u → decode cX3_goThrough pc = .ok (.return_, 1) → W p l e R s m args below meth c H locs 0 0 Qf (F0 m pc ls [])) {a0 : Int} (ra0 : inR a0) (hw : yW D ca A ad s H locs u) (hl : lv_has ls 5 [(0, .ref (ad 0 2)), (1, .int (jI a0))]) (h : v_3_goThrough a0 Q u) : W p l e R s m args below meth c H locs 0 0 Qf (F0 m 0 ls []) := by
  have hx := X.1.1
  have hb := X.1.2.1
  unfold v_3_goThrough at h
  refine lv_aload_n hx hb dX3_goThrough_0 rfl (lv_at hl 0 rfl) ?_
  refine lv_iconst hx hb dX3_goThrough_1 (v := jI 0) rfl ?_
  refine yp_3_16 X hw (by decide) dX3_goThrough_2 h (fun H locs u hw h => ?_)
  refine lv_aload_n hx hb dX3_goThrough_5 rfl (lv_at hl 0 rfl) ?_
  refine lv_iconst hx hb dX3_goThrough_6 (v := jI 0) rfl ?_
  refine yp_3_26 X hw (by decide) dX3_goThrough_7 h (fun H locs u hw h => ?_)
  refine lv_aload_n hx hb dX3_goThrough_10 rfl (lv_at hl 0 rfl) ?_
  refine lv_iconst hx hb dX3_goThrough_11 (v := jI (-1)) rfl ?_
  refine yp_3_34 X hw (by decide) dX3_goThrough_12 h (fun H locs u hw h => ?_)
  refine lv_aload_n hx hb dX3_goThrough_15 rfl (lv_at hl 0 rfl) ?_
  refine lv_iload_n hx hb dX3_goThrough_16 rfl (lv_at hl 1 rfl) ?_
  refine ycV (n := 1) (e_3_open ra0 h) 3 2 (r := (RX3, TX3, 11)) rfl yG_3_57 yD_3_open X hw rfl yGo_3 (Nat.le_trans (Nat.le_of_ble_eq_true rfl) hRf) (Nat.le_trans (Nat.le_of_ble_eq_true rfl) hRl) rfl hl.1 (Nat.le_of_ble_eq_true rfl) rfl dX3_goThrough_17 (fun u H locs h hw => ?_)
  refine lv_iconst hx hb dX3_goThrough_20 (v := jI 0) rfl ?_
  refine lv_istore_n hx hb dX3_goThrough_21 rfl hl (by decide) rfl (fun ls hl => ?_)
  have hl : lv_has ls 5 [(2, .int (jI 0)), (0, .ref (ad 0 2)), (1, .int (jI a0))] := hl
  exact f_3_goThrough_22 X hRf hRl hret (by decide) hw (lv_sub hl [1, 0] rfl) h

end
theorem e_3_goThrough {l : Launch} {a0 : Int} (ra0 : inR a0) {Q : iST → Prop} {u : iST} (h : v_3_goThrough a0 Q u) : yMV l yX3_goThrough (.code yX3_goThrough cX3_goThrough 5 none :: wsN) { frames := 6, cells := 0, slots := 0, locals := 156 } (fun ad => [.ref (ad 0 2), .int (jI a0)]) Q u := yMV_of (own := RX3) rfl (by decide +kernel) (fun _ => Nat.le_of_ble_eq_true rfl) (fun X hRf hRl hret hw hl => f_3_goThrough_s X hRf hRl hret ra0 hw hl h)

/-! ProofHouse$Prover.begin -/
theorem dX4_begin_0 : decode cX4_begin 0 = .ok (.aload_n 0, 1) := by decide +kernel
theorem dX4_begin_1 : decode cX4_begin 1 = .ok (.iconst 0, 1) := by decide +kernel
theorem dX4_begin_2 : decode cX4_begin 2 = .ok (.putfield 17, 3) := by decide +kernel
theorem dX4_begin_5 : decode cX4_begin 5 = .ok (.aload_n 0, 1) := by decide +kernel
theorem dX4_begin_6 : decode cX4_begin 6 = .ok (.iconst 0, 1) := by decide +kernel
theorem dX4_begin_7 : decode cX4_begin 7 = .ok (.putfield 30, 3) := by decide +kernel
theorem dX4_begin_10 : decode cX4_begin 10 = .ok (.return_, 1) := by decide +kernel

section
variable {p : Program} {l : Launch} {e : Env} {R : Room} {s : State} {m : MethodId} {args : Array Value} {below : List Frame} {meth : Method} {c : Code} {H : Heap} {locs : List Loc} {Qf : State → Prop}
variable {ls : Array Slot} {D : va_G} {ca : Nat → ClassId} {A : Nat → Prop} {ad : Nat → Nat → Nat} {u : iST}
def v_4_begin (Q : iST → Prop) (u : iST) : Prop :=
  sw (iI u 13 0) (fun u => 
  sw (iI u 15 0) (fun u => 
  Q u))
set_option maxRecDepth 20000 in
set_option maxHeartbeats 4000000 in
theorem f_4_begin_s (X : yX RX4 p m c cX4_begin 1 s args D ca ad A) (hRf : 0 ≤ R.frames) (hRl : 0 ≤ R.locals) {Q : iST → Prop} (hret : ∀ (u : iST) (H : Heap) (locs : List Loc) (ls : Array Slot) (pc : Nat), Q u → yW D ca A ad s H locs u → decode cX4_begin pc = .ok (.return_, 1) → W p l e R s m args below meth c H locs 0 0 Qf (F0 m pc ls [])) (hw : yW D ca A ad s H locs u) (hl : lv_has ls 1 [(0, .ref (ad 0 3))]) (h : v_4_begin Q u) : W p l e R s m args below meth c H locs 0 0 Qf (F0 m 0 ls []) := by
  have hx := X.1.1
  have hb := X.1.2.1
  unfold v_4_begin at h
  refine lv_aload_n hx hb dX4_begin_0 rfl (lv_at hl 0 rfl) ?_
  refine lv_iconst hx hb dX4_begin_1 (v := jI 0) rfl ?_
  refine yp_4_17 X hw (by decide) dX4_begin_2 h (fun H locs u hw h => ?_)
  refine lv_aload_n hx hb dX4_begin_5 rfl (lv_at hl 0 rfl) ?_
  refine lv_iconst hx hb dX4_begin_6 (v := jI 0) rfl ?_
  refine yp_4_30 X hw (by decide) dX4_begin_7 h (fun H locs u hw h => ?_)
  exact hret _ _ _ _ _ h hw dX4_begin_10

end
theorem e_4_begin {l : Launch} {Q : iST → Prop} {u : iST} (h : v_4_begin Q u) : yMV l yX4_begin (.code yX4_begin cX4_begin 1 none :: wsN) { frames := 0, cells := 0, slots := 0, locals := 0 } (fun ad => [.ref (ad 0 3)]) Q u := yMV_of (own := RX4) rfl (by decide +kernel) (fun _ => Nat.le_of_ble_eq_true rfl) (fun X hRf hRl hret hw hl => f_4_begin_s X hRf hRl hret hw hl h)

/-! ProofHouse$Prover.newClause -/
theorem dX4_newClause_0 : decode cX4_newClause 0 = .ok (.aload_n 0, 1) := by decide +kernel
theorem dX4_newClause_1 : decode cX4_newClause 1 = .ok (.getfield 17, 3) := by decide +kernel
theorem dX4_newClause_4 : decode cX4_newClause 4 = .ok (.bipush 120, 2) := by decide +kernel
theorem dX4_newClause_6 : decode cX4_newClause 6 = .ok (.if_icmp .lt 16, 3) := by decide +kernel
theorem dX4_newClause_9 : decode cX4_newClause 9 = .ok (.aload_n 0, 1) := by decide +kernel
theorem dX4_newClause_10 : decode cX4_newClause 10 = .ok (.getfield 42, 3) := by decide +kernel
theorem dX4_newClause_13 : decode cX4_newClause 13 = .ok (.iconst 4, 1) := by decide +kernel
theorem dX4_newClause_14 : decode cX4_newClause 14 = .ok (.invokevirtual 54, 3) := by decide +kernel
theorem dX4_newClause_17 : decode cX4_newClause 17 = .ok (.aload_n 0, 1) := by decide +kernel
theorem dX4_newClause_18 : decode cX4_newClause 18 = .ok (.getfield 34, 3) := by decide +kernel
theorem dX4_newClause_21 : decode cX4_newClause 21 = .ok (.areturn, 1) := by decide +kernel
theorem dX4_newClause_22 : decode cX4_newClause 22 = .ok (.aload_n 0, 1) := by decide +kernel
theorem dX4_newClause_23 : decode cX4_newClause 23 = .ok (.getfield 13, 3) := by decide +kernel
theorem dX4_newClause_26 : decode cX4_newClause 26 = .ok (.aload_n 0, 1) := by decide +kernel
theorem dX4_newClause_27 : decode cX4_newClause 27 = .ok (.getfield 17, 3) := by decide +kernel
theorem dX4_newClause_30 : decode cX4_newClause 30 = .ok (.aaload, 1) := by decide +kernel
theorem dX4_newClause_31 : decode cX4_newClause 31 = .ok (.astore_n 1, 1) := by decide +kernel
theorem dX4_newClause_32 : decode cX4_newClause 32 = .ok (.aload_n 1, 1) := by decide +kernel
theorem dX4_newClause_33 : decode cX4_newClause 33 = .ok (.invokevirtual 60, 3) := by decide +kernel
theorem dX4_newClause_36 : decode cX4_newClause 36 = .ok (.aload_n 0, 1) := by decide +kernel
theorem dX4_newClause_37 : decode cX4_newClause 37 = .ok (.dup, 1) := by decide +kernel
theorem dX4_newClause_38 : decode cX4_newClause 38 = .ok (.getfield 17, 3) := by decide +kernel
theorem dX4_newClause_41 : decode cX4_newClause 41 = .ok (.iconst 1, 1) := by decide +kernel
theorem dX4_newClause_42 : decode cX4_newClause 42 = .ok (.iadd, 1) := by decide +kernel
theorem dX4_newClause_43 : decode cX4_newClause 43 = .ok (.putfield 17, 3) := by decide +kernel
theorem dX4_newClause_46 : decode cX4_newClause 46 = .ok (.aload_n 1, 1) := by decide +kernel
theorem dX4_newClause_47 : decode cX4_newClause 47 = .ok (.areturn, 1) := by decide +kernel

section
variable {p : Program} {l : Launch} {e : Env} {R : Room} {s : State} {m : MethodId} {args : Array Value} {below : List Frame} {meth : Method} {c : Code} {H : Heap} {locs : List Loc} {Qf : State → Prop}
variable {ls : Array Slot} {D : va_G} {ca : Nat → ClassId} {A : Nat → Prop} {ad : Nat → Nat → Nat} {u : iST}
def v_4_newClause (Q : Int → iST → Prop) (u : iST) : Prop :=
  rd (u.1 13) (fun v1 => 
  br (v1 < 120) (
    rd (u.1 13) (fun v2 => 
    bd v2 120 (
    v_1_clear v2 (fun u => 
    rd (u.1 13) (fun v6 => 
    ov (v6 + 1) (
    sw (iI u 13 (v6 + 1)) (fun u => 
    Q v2 u)))) u))) (
    v_7_blame 4 (fun u => 
    Q 150 u) u))
set_option maxRecDepth 20000 in
set_option maxHeartbeats 4000000 in
theorem f_4_newClause_s (X : yX RX4 p m c cX4_newClause 2 s args D ca ad A) (hRf : 1 ≤ R.frames) (hRl : 21 ≤ R.locals) {Q : Int → iST → Prop} (hret : ∀ (v : Int) (u : iST) (H : Heap) (locs : List Loc) (ls : Array Slot) (pc : Nat), (0 ≤ v ∧ v < 408) → Q v u → yW D ca A ad s H locs u → decode cX4_newClause pc = .ok (.areturn, 1) → W p l e R s m args below meth c H locs 0 0 Qf (F0 m pc ls [.ref (ad 4 v.toNat)])) (hw : yW D ca A ad s H locs u) (hl : lv_has ls 2 [(0, .ref (ad 0 3))]) (h : v_4_newClause Q u) : W p l e R s m args below meth c H locs 0 0 Qf (F0 m 0 ls []) := by
  have hx := X.1.1
  have hb := X.1.2.1
  unfold v_4_newClause at h
  refine lv_aload_n hx hb dX4_newClause_0 rfl (lv_at hl 0 rfl) ?_
  refine yg_4_17 X hw dX4_newClause_1 h (fun v1 rv1 h => ?_)
  refine lv_bipush hx hb dX4_newClause_4 (v := jI 120) rfl ?_
  refine k_icmp_lt hx hb rv1 (by decide) dX4_newClause_6 (tgt := 22) rfl h (fun h => ?_) (fun h => ?_)
  · refine lv_aload_n hx hb dX4_newClause_22 rfl (lv_at hl 0 rfl) ?_
    refine yg_4_13 X hw dX4_newClause_23 ?_
    refine lv_aload_n hx hb dX4_newClause_26 rfl (lv_at hl 0 rfl) ?_
    refine yg_4_17 X hw dX4_newClause_27 h (fun v2 rv2 h => ?_)
    have q3 := h
    have r4 : (0 ≤ v2 ∧ v2 < 408) := ⟨q3.1, by have := q3.2.1; omega⟩
    refine yx_4 X hw rv2 dX4_newClause_30 h (fun h => ?_)
    refine lv_astore_n hx hb dX4_newClause_31 rfl hl (by decide) rfl (fun ls hl => ?_)
    have hl : lv_has ls 2 [(1, .ref (ad 4 v2.toNat)), (0, .ref (ad 0 3))] := hl
    refine lv_aload_n hx hb dX4_newClause_32 rfl (lv_at hl 0 rfl) ?_
    refine ycV (n := 0) (e_1_clear r4 h) 1 (65 + v2.toNat) (r := (RX1, TX1, 4)) rfl yG_4_60 yD_1_clear X hw rfl (yGf_clause (toNat_lt r4)) (Nat.le_trans (Nat.le_of_ble_eq_true rfl) hRf) (Nat.le_trans (Nat.le_of_ble_eq_true rfl) hRl) rfl hl.1 (Nat.le_of_ble_eq_true rfl) rfl dX4_newClause_33 (fun u H locs h hw => ?_)
    refine lv_aload_n hx hb dX4_newClause_36 rfl (lv_at hl 1 rfl) ?_
    refine lv_dup hx hb dX4_newClause_37 rfl ?_
    refine yg_4_17 X hw dX4_newClause_38 h (fun v6 rv6 h => ?_)
    refine lv_iconst hx hb dX4_newClause_41 (v := jI 1) rfl ?_
    refine k_iadd hx hb dX4_newClause_42 h (fun r7 h => ?_)
    refine yp_4_17 X hw r7 dX4_newClause_43 h (fun H locs u hw h => ?_)
    refine lv_aload_n hx hb dX4_newClause_46 rfl (lv_at hl 0 rfl) ?_
    exact hret _ _ _ _ _ _ r4 h hw dX4_newClause_47
  · refine lv_aload_n hx hb dX4_newClause_9 rfl (lv_at hl 0 rfl) ?_
    refine yg_4_42 X hw dX4_newClause_10 ?_
    refine lv_iconst hx hb dX4_newClause_13 (v := jI 4) rfl ?_
    refine ycV (n := 1) (e_7_blame (by decide) h) 7 6 (r := (RX7, TX7, 9)) rfl yG_4_54 yD_7_blame X hw rfl yGo_7 (Nat.le_trans (Nat.le_of_ble_eq_true rfl) hRf) (Nat.le_trans (Nat.le_of_ble_eq_true rfl) hRl) rfl hl.1 (Nat.le_of_ble_eq_true rfl) rfl dX4_newClause_14 (fun u H locs h hw => ?_)
    refine lv_aload_n hx hb dX4_newClause_17 rfl (lv_at hl 0 rfl) ?_
    refine yg_4_34 X hw dX4_newClause_18 ?_
    exact hret _ _ _ _ _ _ (by decide) h hw dX4_newClause_21

end
theorem e_4_newClause {l : Launch} {Q : Int → iST → Prop} {u : iST} (h : v_4_newClause Q u) : yMR l yX4_newClause (.code yX4_newClause cX4_newClause 2 (some (.object "ProofHouse$Clause")) :: wsN) { frames := 1, cells := 0, slots := 0, locals := 21 } (fun ad => [.ref (ad 0 3)]) Q u := yMR_of (own := RX4) rfl (by decide +kernel) (fun _ => Nat.le_of_ble_eq_true rfl) (fun X hRf hRl hret hw hl => f_4_newClause_s X hRf hRl hret hw hl h)

/-! ProofHouse$Prover.isPlain -/
theorem dX4_isPlain_0 : decode cX4_isPlain 0 = .ok (.iconst 0, 1) := by decide +kernel
theorem dX4_isPlain_1 : decode cX4_isPlain 1 = .ok (.istore_n 2, 1) := by decide +kernel
theorem dX4_isPlain_2 : decode cX4_isPlain 2 = .ok (.iload_n 2, 1) := by decide +kernel
theorem dX4_isPlain_3 : decode cX4_isPlain 3 = .ok (.aload_n 1, 1) := by decide +kernel
theorem dX4_isPlain_4 : decode cX4_isPlain 4 = .ok (.getfield 84, 3) := by decide +kernel
theorem dX4_isPlain_7 : decode cX4_isPlain 7 = .ok (.if_icmp .ge 71, 3) := by decide +kernel
theorem dX4_isPlain_10 : decode cX4_isPlain 10 = .ok (.aload_n 1, 1) := by decide +kernel
theorem dX4_isPlain_11 : decode cX4_isPlain 11 = .ok (.getfield 87, 3) := by decide +kernel
theorem dX4_isPlain_14 : decode cX4_isPlain 14 = .ok (.iload_n 2, 1) := by decide +kernel
theorem dX4_isPlain_15 : decode cX4_isPlain 15 = .ok (.iaload, 1) := by decide +kernel
theorem dX4_isPlain_16 : decode cX4_isPlain 16 = .ok (.istore_n 3, 1) := by decide +kernel
theorem dX4_isPlain_17 : decode cX4_isPlain 17 = .ok (.iload_n 3, 1) := by decide +kernel
theorem dX4_isPlain_18 : decode cX4_isPlain 18 = .ok (.ifCond .eq 16, 3) := by decide +kernel
theorem dX4_isPlain_21 : decode cX4_isPlain 21 = .ok (.aload_n 0, 1) := by decide +kernel
theorem dX4_isPlain_22 : decode cX4_isPlain 22 = .ok (.getfield 42, 3) := by decide +kernel
theorem dX4_isPlain_25 : decode cX4_isPlain 25 = .ok (.iload_n 3, 1) := by decide +kernel
theorem dX4_isPlain_26 : decode cX4_isPlain 26 = .ok (.invokevirtual 91, 3) := by decide +kernel
theorem dX4_isPlain_29 : decode cX4_isPlain 29 = .ok (.ifCond .eq 5, 3) := by decide +kernel
theorem dX4_isPlain_32 : decode cX4_isPlain 32 = .ok (.iconst 1, 1) := by decide +kernel
theorem dX4_isPlain_33 : decode cX4_isPlain 33 = .ok (.ireturn, 1) := by decide +kernel
theorem dX4_isPlain_34 : decode cX4_isPlain 34 = .ok (.iconst 0, 1) := by decide +kernel
theorem dX4_isPlain_35 : decode cX4_isPlain 35 = .ok (.istore 4, 2) := by decide +kernel
theorem dX4_isPlain_37 : decode cX4_isPlain 37 = .ok (.iload 4, 2) := by decide +kernel
theorem dX4_isPlain_39 : decode cX4_isPlain 39 = .ok (.aload_n 1, 1) := by decide +kernel
theorem dX4_isPlain_40 : decode cX4_isPlain 40 = .ok (.getfield 84, 3) := by decide +kernel
theorem dX4_isPlain_43 : decode cX4_isPlain 43 = .ok (.if_icmp .ge 29, 3) := by decide +kernel
theorem dX4_isPlain_46 : decode cX4_isPlain 46 = .ok (.aload_n 0, 1) := by decide +kernel
theorem dX4_isPlain_47 : decode cX4_isPlain 47 = .ok (.getfield 46, 3) := by decide +kernel
theorem dX4_isPlain_50 : decode cX4_isPlain 50 = .ok (.aload_n 1, 1) := by decide +kernel
theorem dX4_isPlain_51 : decode cX4_isPlain 51 = .ok (.getfield 87, 3) := by decide +kernel
theorem dX4_isPlain_54 : decode cX4_isPlain 54 = .ok (.iload 4, 2) := by decide +kernel
theorem dX4_isPlain_56 : decode cX4_isPlain 56 = .ok (.iaload, 1) := by decide +kernel
theorem dX4_isPlain_57 : decode cX4_isPlain 57 = .ok (.iload_n 3, 1) := by decide +kernel
theorem dX4_isPlain_58 : decode cX4_isPlain 58 = .ok (.invokevirtual 95, 3) := by decide +kernel
theorem dX4_isPlain_61 : decode cX4_isPlain 61 = .ok (.ifCond .eq 5, 3) := by decide +kernel
theorem dX4_isPlain_64 : decode cX4_isPlain 64 = .ok (.iconst 1, 1) := by decide +kernel
theorem dX4_isPlain_65 : decode cX4_isPlain 65 = .ok (.ireturn, 1) := by decide +kernel
theorem dX4_isPlain_66 : decode cX4_isPlain 66 = .ok (.iinc 4 1, 3) := by decide +kernel
theorem dX4_isPlain_69 : decode cX4_isPlain 69 = .ok (.goto (-32), 3) := by decide +kernel
theorem dX4_isPlain_72 : decode cX4_isPlain 72 = .ok (.iinc 2 1, 3) := by decide +kernel
theorem dX4_isPlain_75 : decode cX4_isPlain 75 = .ok (.goto (-73), 3) := by decide +kernel
theorem dX4_isPlain_78 : decode cX4_isPlain 78 = .ok (.iconst 0, 1) := by decide +kernel
theorem dX4_isPlain_79 : decode cX4_isPlain 79 = .ok (.ireturn, 1) := by decide +kernel

section
variable {p : Program} {l : Launch} {e : Env} {R : Room} {s : State} {m : MethodId} {args : Array Value} {below : List Frame} {meth : Method} {c : Code} {H : Heap} {locs : List Loc} {Qf : State → Prop}
variable {ls : Array Slot} {D : va_G} {ca : Nat → ClassId} {A : Nat → Prop} {ad : Nat → Nat → Nat} {u : iST}
def v_4_isPlain_37b (R2 : Int → Int → iST → Prop) (R37 : Int → Int → Int → Int → iST → Prop) (Q : Int → iST → Prop) (x1 : Int) (x2 : Int) (x3 : Int) (x4 : Int) (u : iST) : Prop :=
  rd (u.2.1 46 x1) (fun v3 => 
  br (v3 ≤ x4) (
    ov (x2 + 1) (
    R2 x1 (x2 + 1) u)) (
    bd x4 30 (rd (u.2.1 49 (30 * x1 + x4)) (fun v5 => 
    v_10_isNegation v5 x3 (fun v6 u => 
    br (v6 = 0) (
      ov (x4 + 1) (
      R37 x1 x2 x3 (x4 + 1) u)) (
      zt 1 (Q 1 u))) u))))
def v_4_isPlain_37 (R2 : Int → Int → iST → Prop) (Q : Int → iST → Prop) (x1 : Int) (x2 : Int) (x3 : Int) (x4 : Int) (u : iST) : Prop := ∀ R37 : Int → Int → Int → Int → iST → Prop, (∀ (x1 : Int) (x2 : Int) (x3 : Int) (x4 : Int) (u : iST), v_4_isPlain_37b R2 R37 Q x1 x2 x3 x4 u → R37 x1 x2 x3 x4 u) → R37 x1 x2 x3 x4 u
set_option maxRecDepth 20000 in
set_option maxHeartbeats 4000000 in
theorem f_4_isPlain_37 (X : yX RX4 p m c cX4_isPlain 5 s args D ca ad A) (hRf : 2 ≤ R.frames) (hRl : 46 ≤ R.locals) {Q : Int → iST → Prop} (hret : ∀ (v : Int) (u : iST) (H : Heap) (locs : List Loc) (ls : Array Slot) (pc : Nat), bz v → Q v u → yW D ca A ad s H locs u → decode cX4_isPlain pc = .ok (.ireturn, 1) → W p l e R s m args below meth c H locs 0 0 Qf (F0 m pc ls [.int (jI v)])) {R2 : Int → Int → iST → Prop} (hR2 : ∀ (x1 : Int) (x2 : Int) (u : iST) (H : Heap) (locs : List Loc) (ls : Array Slot), (0 ≤ x1 ∧ x1 < 408) → inR x2 → yW D ca A ad s H locs u → lv_has ls 5 [(0, .ref (ad 0 3)), (1, .ref (ad 4 x1.toNat)), (2, .int (jI x2))] → R2 x1 x2 u → W p l e R s m args below meth c H locs 0 0 Qf (F0 m 2 ls [])) {x1 x2 x3 x4 : Int} (rx1 : (0 ≤ x1 ∧ x1 < 408)) (rx2 : inR x2) (rx3 : inR x3) (rx4 : inR x4) (hw : yW D ca A ad s H locs u) (hl : lv_has ls 5 [(0, .ref (ad 0 3)), (1, .ref (ad 4 x1.toNat)), (2, .int (jI x2)), (3, .int (jI x3)), (4, .int (jI x4))]) (h : v_4_isPlain_37 R2 Q x1 x2 x3 x4 u) : W p l e R s m args below meth c H locs 0 0 Qf (F0 m 37 ls []) := by
  refine h (fun x1 x2 x3 x4 u => ∀ (H : Heap) (locs : List Loc) (ls : Array Slot), (0 ≤ x1 ∧ x1 < 408) → inR x2 → inR x3 → inR x4 → yW D ca A ad s H locs u → lv_has ls 5 [(0, .ref (ad 0 3)), (1, .ref (ad 4 x1.toNat)), (2, .int (jI x2)), (3, .int (jI x3)), (4, .int (jI x4))] → W p l e R s m args below meth c H locs 0 0 Qf (F0 m 37 ls [])) ?_ H locs ls rx1 rx2 rx3 rx4 hw hl
  clear h hl hw rx1 rx2 rx3 rx4
  intro x1 x2 x3 x4 u h H locs ls rx1 rx2 rx3 rx4 hw hl
  have hR37 : ∀ (x1 : Int) (x2 : Int) (x3 : Int) (x4 : Int) (u : iST) (H : Heap) (locs : List Loc) (ls : Array Slot), (0 ≤ x1 ∧ x1 < 408) → inR x2 → inR x3 → inR x4 → yW D ca A ad s H locs u → lv_has ls 5 [(0, .ref (ad 0 3)), (1, .ref (ad 4 x1.toNat)), (2, .int (jI x2)), (3, .int (jI x3)), (4, .int (jI x4))] → (fun (x1 : Int) (x2 : Int) (x3 : Int) (x4 : Int) u => ∀ (H : Heap) (locs : List Loc) (ls : Array Slot), (0 ≤ x1 ∧ x1 < 408) → inR x2 → inR x3 → inR x4 → yW D ca A ad s H locs u → lv_has ls 5 [(0, .ref (ad 0 3)), (1, .ref (ad 4 x1.toNat)), (2, .int (jI x2)), (3, .int (jI x3)), (4, .int (jI x4))] → W p l e R s m args below meth c H locs 0 0 Qf (F0 m 37 ls [])) x1 x2 x3 x4 u → W p l e R s m args below meth c H locs 0 0 Qf (F0 m 37 ls []) := fun x1 x2 x3 x4 u H locs ls rx1 rx2 rx3 rx4 hw hl h => h H locs ls rx1 rx2 rx3 rx4 hw hl
  have hx := X.1.1
  have hb := X.1.2.1
  unfold v_4_isPlain_37b at h
  refine lv_iload hx hb dX4_isPlain_37 (lv_at hl 4 rfl) ?_
  refine lv_aload_n hx hb dX4_isPlain_39 rfl (lv_at hl 1 rfl) ?_
  refine yg_4_84 X hw dX4_isPlain_40 rx1 h (fun v3 rv3 h => ?_)
  refine k_icmp_ge hx hb rx4 rv3 dX4_isPlain_43 (tgt := 72) rfl h (fun h => ?_) (fun h => ?_)
  · refine k_iinc (k := 2) hx hb dX4_isPlain_72 hl rfl (by decide) rfl h (fun ls r4 h hl => ?_)
    have hl : lv_has ls 5 [(2, .int (jI (x2 + 1))), (0, .ref (ad 0 3)), (1, .ref (ad 4 x1.toNat)), (3, .int (jI x3)), (4, .int (jI x4))] := hl
    refine lv_goto hx hb dX4_isPlain_75 (tgt := 2) rfl ?_
    exact hR2 _ _ _ H locs ls rx1 r4 hw (lv_sub hl [1, 2, 0] rfl) h
  · refine lv_aload_n hx hb dX4_isPlain_46 rfl (lv_at hl 0 rfl) ?_
    refine yg_4_46 X hw dX4_isPlain_47 ?_
    refine lv_aload_n hx hb dX4_isPlain_50 rfl (lv_at hl 1 rfl) ?_
    refine yg_4_87 X hw dX4_isPlain_51 rx1 ?_
    refine lv_iload hx hb dX4_isPlain_54 (lv_at hl 4 rfl) ?_
    refine yfl_lits X hw rx1 rx4 dX4_isPlain_56 h (fun v5 rv5 h => ?_)
    refine lv_iload_n hx hb dX4_isPlain_57 rfl (lv_at hl 3 rfl) ?_
    refine ycI (n := 2) (e_10_isNegation rv5 rx3 h) 10 8 (r := (RX10, TX10, 16)) rfl yG_4_95 yD_10_isNegation X hw rfl yGo_10 (Nat.le_trans (Nat.le_of_ble_eq_true rfl) hRf) (Nat.le_trans (Nat.le_of_ble_eq_true rfl) hRl) rfl hl.1 (Nat.le_of_ble_eq_true rfl) rfl dX4_isPlain_58 (fun v6 u H locs rv6 h hw => ?_)
    refine k_if_eq hx hb rv6 dX4_isPlain_61 (tgt := 66) rfl h (fun h => ?_) (fun h => ?_)
    · refine k_iinc (k := 4) hx hb dX4_isPlain_66 hl rfl (by decide) rfl h (fun ls r7 h hl => ?_)
      have hl : lv_has ls 5 [(4, .int (jI (x4 + 1))), (0, .ref (ad 0 3)), (1, .ref (ad 4 x1.toNat)), (2, .int (jI x2)), (3, .int (jI x3))] := hl
      refine lv_goto hx hb dX4_isPlain_69 (tgt := 37) rfl ?_
      exact hR37 _ _ _ _ _ H locs ls rx1 rx2 rx3 r7 hw (lv_sub hl [1, 2, 3, 4, 0] rfl) h
    · refine lv_iconst hx hb dX4_isPlain_64 (v := jI 1) rfl ?_
      exact hret _ _ _ _ _ _ h.1 h.2 hw dX4_isPlain_65

def v_4_isPlain_34 (R2 : Int → Int → iST → Prop) (Q : Int → iST → Prop) (x1 : Int) (x2 : Int) (x3 : Int) (u : iST) : Prop :=
  v_4_isPlain_37 R2 Q x1 x2 x3 0 u
set_option maxRecDepth 20000 in
set_option maxHeartbeats 4000000 in
theorem f_4_isPlain_34 (X : yX RX4 p m c cX4_isPlain 5 s args D ca ad A) (hRf : 2 ≤ R.frames) (hRl : 46 ≤ R.locals) {Q : Int → iST → Prop} (hret : ∀ (v : Int) (u : iST) (H : Heap) (locs : List Loc) (ls : Array Slot) (pc : Nat), bz v → Q v u → yW D ca A ad s H locs u → decode cX4_isPlain pc = .ok (.ireturn, 1) → W p l e R s m args below meth c H locs 0 0 Qf (F0 m pc ls [.int (jI v)])) {R2 : Int → Int → iST → Prop} (hR2 : ∀ (x1 : Int) (x2 : Int) (u : iST) (H : Heap) (locs : List Loc) (ls : Array Slot), (0 ≤ x1 ∧ x1 < 408) → inR x2 → yW D ca A ad s H locs u → lv_has ls 5 [(0, .ref (ad 0 3)), (1, .ref (ad 4 x1.toNat)), (2, .int (jI x2))] → R2 x1 x2 u → W p l e R s m args below meth c H locs 0 0 Qf (F0 m 2 ls [])) {x1 x2 x3 : Int} (rx1 : (0 ≤ x1 ∧ x1 < 408)) (rx2 : inR x2) (rx3 : inR x3) (hw : yW D ca A ad s H locs u) (hl : lv_has ls 5 [(0, .ref (ad 0 3)), (1, .ref (ad 4 x1.toNat)), (2, .int (jI x2)), (3, .int (jI x3))]) (h : v_4_isPlain_34 R2 Q x1 x2 x3 u) : W p l e R s m args below meth c H locs 0 0 Qf (F0 m 34 ls []) := by
  have hx := X.1.1
  have hb := X.1.2.1
  unfold v_4_isPlain_34 at h
  refine lv_iconst hx hb dX4_isPlain_34 (v := jI 0) rfl ?_
  refine lv_istore hx hb dX4_isPlain_35 hl (by decide) rfl (fun ls hl => ?_)
  have hl : lv_has ls 5 [(4, .int (jI 0)), (0, .ref (ad 0 3)), (1, .ref (ad 4 x1.toNat)), (2, .int (jI x2)), (3, .int (jI x3))] := hl
  exact f_4_isPlain_37 X hRf hRl hret hR2 rx1 rx2 rx3 (by decide) hw (lv_sub hl [1, 2, 3, 4, 0] rfl) h

def v_4_isPlain_2b (R2 : Int → Int → iST → Prop) (Q : Int → iST → Prop) (x1 : Int) (x2 : Int) (u : iST) : Prop :=
  rd (u.2.1 46 x1) (fun v1 => 
  br (v1 ≤ x2) (
    zt 0 (Q 0 u)) (
    bd x2 30 (rd (u.2.1 49 (30 * x1 + x2)) (fun v2 => 
    br (v2 = 0) (
      v_4_isPlain_34 R2 Q x1 x2 v2 u) (
      v_7_isConstant v2 (fun v8 u => 
      br (v8 = 0) (
        v_4_isPlain_34 R2 Q x1 x2 v2 u) (
        zt 1 (Q 1 u))) u)))))
def v_4_isPlain_2 (Q : Int → iST → Prop) (x1 : Int) (x2 : Int) (u : iST) : Prop := ∀ R2 : Int → Int → iST → Prop, (∀ (x1 : Int) (x2 : Int) (u : iST), v_4_isPlain_2b R2 Q x1 x2 u → R2 x1 x2 u) → R2 x1 x2 u
set_option maxRecDepth 20000 in
set_option maxHeartbeats 4000000 in
theorem f_4_isPlain_2 (X : yX RX4 p m c cX4_isPlain 5 s args D ca ad A) (hRf : 2 ≤ R.frames) (hRl : 46 ≤ R.locals) {Q : Int → iST → Prop} (hret : ∀ (v : Int) (u : iST) (H : Heap) (locs : List Loc) (ls : Array Slot) (pc : Nat), bz v → Q v u → yW D ca A ad s H locs u → decode cX4_isPlain pc = .ok (.ireturn, 1) → W p l e R s m args below meth c H locs 0 0 Qf (F0 m pc ls [.int (jI v)])) {x1 x2 : Int} (rx1 : (0 ≤ x1 ∧ x1 < 408)) (rx2 : inR x2) (hw : yW D ca A ad s H locs u) (hl : lv_has ls 5 [(0, .ref (ad 0 3)), (1, .ref (ad 4 x1.toNat)), (2, .int (jI x2))]) (h : v_4_isPlain_2 Q x1 x2 u) : W p l e R s m args below meth c H locs 0 0 Qf (F0 m 2 ls []) := by
  refine h (fun x1 x2 u => ∀ (H : Heap) (locs : List Loc) (ls : Array Slot), (0 ≤ x1 ∧ x1 < 408) → inR x2 → yW D ca A ad s H locs u → lv_has ls 5 [(0, .ref (ad 0 3)), (1, .ref (ad 4 x1.toNat)), (2, .int (jI x2))] → W p l e R s m args below meth c H locs 0 0 Qf (F0 m 2 ls [])) ?_ H locs ls rx1 rx2 hw hl
  clear h hl hw rx1 rx2
  intro x1 x2 u h H locs ls rx1 rx2 hw hl
  have hR2 : ∀ (x1 : Int) (x2 : Int) (u : iST) (H : Heap) (locs : List Loc) (ls : Array Slot), (0 ≤ x1 ∧ x1 < 408) → inR x2 → yW D ca A ad s H locs u → lv_has ls 5 [(0, .ref (ad 0 3)), (1, .ref (ad 4 x1.toNat)), (2, .int (jI x2))] → (fun (x1 : Int) (x2 : Int) u => ∀ (H : Heap) (locs : List Loc) (ls : Array Slot), (0 ≤ x1 ∧ x1 < 408) → inR x2 → yW D ca A ad s H locs u → lv_has ls 5 [(0, .ref (ad 0 3)), (1, .ref (ad 4 x1.toNat)), (2, .int (jI x2))] → W p l e R s m args below meth c H locs 0 0 Qf (F0 m 2 ls [])) x1 x2 u → W p l e R s m args below meth c H locs 0 0 Qf (F0 m 2 ls []) := fun x1 x2 u H locs ls rx1 rx2 hw hl h => h H locs ls rx1 rx2 hw hl
  have hx := X.1.1
  have hb := X.1.2.1
  unfold v_4_isPlain_2b at h
  refine lv_iload_n hx hb dX4_isPlain_2 rfl (lv_at hl 2 rfl) ?_
  refine lv_aload_n hx hb dX4_isPlain_3 rfl (lv_at hl 1 rfl) ?_
  refine yg_4_84 X hw dX4_isPlain_4 rx1 h (fun v1 rv1 h => ?_)
  refine k_icmp_ge hx hb rx2 rv1 dX4_isPlain_7 (tgt := 78) rfl h (fun h => ?_) (fun h => ?_)
  · refine lv_iconst hx hb dX4_isPlain_78 (v := jI 0) rfl ?_
    exact hret _ _ _ _ _ _ h.1 h.2 hw dX4_isPlain_79
  · refine lv_aload_n hx hb dX4_isPlain_10 rfl (lv_at hl 1 rfl) ?_
    refine yg_4_87 X hw dX4_isPlain_11 rx1 ?_
    refine lv_iload_n hx hb dX4_isPlain_14 rfl (lv_at hl 2 rfl) ?_
    refine yfl_lits X hw rx1 rx2 dX4_isPlain_15 h (fun v2 rv2 h => ?_)
    refine lv_istore_n hx hb dX4_isPlain_16 rfl hl (by decide) rfl (fun ls hl => ?_)
    have hl : lv_has ls 5 [(3, .int (jI v2)), (0, .ref (ad 0 3)), (1, .ref (ad 4 x1.toNat)), (2, .int (jI x2))] := hl
    refine lv_iload_n hx hb dX4_isPlain_17 rfl (lv_at hl 0 rfl) ?_
    refine k_if_eq hx hb rv2 dX4_isPlain_18 (tgt := 34) rfl h (fun h => ?_) (fun h => ?_)
    · exact f_4_isPlain_34 X hRf hRl hret hR2 rx1 rx2 rv2 hw (lv_sub hl [1, 2, 3, 0] rfl) h
    · refine lv_aload_n hx hb dX4_isPlain_21 rfl (lv_at hl 1 rfl) ?_
      refine yg_4_42 X hw dX4_isPlain_22 ?_
      refine lv_iload_n hx hb dX4_isPlain_25 rfl (lv_at hl 0 rfl) ?_
      refine ycI (n := 1) (e_7_isConstant rv2 h) 7 6 (r := (RX7, TX7, 9)) rfl yG_4_91 yD_7_isConstant X hw rfl yGo_7 (Nat.le_trans (Nat.le_of_ble_eq_true rfl) hRf) (Nat.le_trans (Nat.le_of_ble_eq_true rfl) hRl) rfl hl.1 (Nat.le_of_ble_eq_true rfl) rfl dX4_isPlain_26 (fun v8 u H locs rv8 h hw => ?_)
      refine k_if_eq hx hb rv8 dX4_isPlain_29 (tgt := 34) rfl h (fun h => ?_) (fun h => ?_)
      · exact f_4_isPlain_34 X hRf hRl hret hR2 rx1 rx2 rv2 hw (lv_sub hl [1, 2, 3, 0] rfl) h
      · refine lv_iconst hx hb dX4_isPlain_32 (v := jI 1) rfl ?_
        exact hret _ _ _ _ _ _ h.1 h.2 hw dX4_isPlain_33

def v_4_isPlain (a0 : Int) (Q : Int → iST → Prop) (u : iST) : Prop :=
  v_4_isPlain_2 Q a0 0 u
set_option maxRecDepth 20000 in
set_option maxHeartbeats 4000000 in
theorem f_4_isPlain_s (X : yX RX4 p m c cX4_isPlain 5 s args D ca ad A) (hRf : 2 ≤ R.frames) (hRl : 46 ≤ R.locals) {Q : Int → iST → Prop} (hret : ∀ (v : Int) (u : iST) (H : Heap) (locs : List Loc) (ls : Array Slot) (pc : Nat), bz v → Q v u → yW D ca A ad s H locs u → decode cX4_isPlain pc = .ok (.ireturn, 1) → W p l e R s m args below meth c H locs 0 0 Qf (F0 m pc ls [.int (jI v)])) {a0 : Int} (ra0 : (0 ≤ a0 ∧ a0 < 408)) (hw : yW D ca A ad s H locs u) (hl : lv_has ls 5 [(0, .ref (ad 0 3)), (1, .ref (ad 4 a0.toNat))]) (h : v_4_isPlain a0 Q u) : W p l e R s m args below meth c H locs 0 0 Qf (F0 m 0 ls []) := by
  have hx := X.1.1
  have hb := X.1.2.1
  unfold v_4_isPlain at h
  refine lv_iconst hx hb dX4_isPlain_0 (v := jI 0) rfl ?_
  refine lv_istore_n hx hb dX4_isPlain_1 rfl hl (by decide) rfl (fun ls hl => ?_)
  have hl : lv_has ls 5 [(2, .int (jI 0)), (0, .ref (ad 0 3)), (1, .ref (ad 4 a0.toNat))] := hl
  exact f_4_isPlain_2 X hRf hRl hret ra0 (by decide) hw (lv_sub hl [1, 2, 0] rfl) h

end
theorem e_4_isPlain {l : Launch} {a0 : Int} (ra0 : (0 ≤ a0 ∧ a0 < 408)) {Q : Int → iST → Prop} {u : iST} (h : v_4_isPlain a0 Q u) : yMI l yX4_isPlain (.code yX4_isPlain cX4_isPlain 5 (some .boolean) :: wsN) { frames := 2, cells := 0, slots := 0, locals := 46 } (fun ad => [.ref (ad 0 3), .ref (ad 4 a0.toNat)]) Q u := yMZ_of (own := RX4) rfl (by decide +kernel) (fun _ => Nat.le_of_ble_eq_true rfl) (fun X hRf hRl hret hw hl => f_4_isPlain_s X hRf hRl hret ra0 hw hl h)

/-! ProofHouse$Prover.leave -/
theorem dX4_leave_0 : decode cX4_leave 0 = .ok (.aload_n 0, 1) := by decide +kernel
theorem dX4_leave_1 : decode cX4_leave 1 = .ok (.getfield 30, 3) := by decide +kernel
theorem dX4_leave_4 : decode cX4_leave 4 = .ok (.bipush 20, 2) := by decide +kernel
theorem dX4_leave_6 : decode cX4_leave 6 = .ok (.if_icmp .ge 26, 3) := by decide +kernel
theorem dX4_leave_9 : decode cX4_leave 9 = .ok (.aload_n 0, 1) := by decide +kernel
theorem dX4_leave_10 : decode cX4_leave 10 = .ok (.getfield 27, 3) := by decide +kernel
theorem dX4_leave_13 : decode cX4_leave 13 = .ok (.aload_n 0, 1) := by decide +kernel
theorem dX4_leave_14 : decode cX4_leave 14 = .ok (.getfield 30, 3) := by decide +kernel
theorem dX4_leave_17 : decode cX4_leave 17 = .ok (.aaload, 1) := by decide +kernel
theorem dX4_leave_18 : decode cX4_leave 18 = .ok (.aload_n 1, 1) := by decide +kernel
theorem dX4_leave_19 : decode cX4_leave 19 = .ok (.invokevirtual 66, 3) := by decide +kernel
theorem dX4_leave_22 : decode cX4_leave 22 = .ok (.aload_n 0, 1) := by decide +kernel
theorem dX4_leave_23 : decode cX4_leave 23 = .ok (.dup, 1) := by decide +kernel
theorem dX4_leave_24 : decode cX4_leave 24 = .ok (.getfield 30, 3) := by decide +kernel
theorem dX4_leave_27 : decode cX4_leave 27 = .ok (.iconst 1, 1) := by decide +kernel
theorem dX4_leave_28 : decode cX4_leave 28 = .ok (.iadd, 1) := by decide +kernel
theorem dX4_leave_29 : decode cX4_leave 29 = .ok (.putfield 30, 3) := by decide +kernel
theorem dX4_leave_32 : decode cX4_leave 32 = .ok (.aload_n 0, 1) := by decide +kernel
theorem dX4_leave_33 : decode cX4_leave 33 = .ok (.dup, 1) := by decide +kernel
theorem dX4_leave_34 : decode cX4_leave 34 = .ok (.getfield 24, 3) := by decide +kernel
theorem dX4_leave_37 : decode cX4_leave 37 = .ok (.iconst 1, 1) := by decide +kernel
theorem dX4_leave_38 : decode cX4_leave 38 = .ok (.isub, 1) := by decide +kernel
theorem dX4_leave_39 : decode cX4_leave 39 = .ok (.putfield 24, 3) := by decide +kernel
theorem dX4_leave_42 : decode cX4_leave 42 = .ok (.return_, 1) := by decide +kernel

section
variable {p : Program} {l : Launch} {e : Env} {R : Room} {s : State} {m : MethodId} {args : Array Value} {below : List Frame} {meth : Method} {c : Code} {H : Heap} {locs : List Loc} {Qf : State → Prop}
variable {ls : Array Slot} {D : va_G} {ca : Nat → ClassId} {A : Nat → Prop} {ad : Nat → Nat → Nat} {u : iST}
def v_4_leave_32 (Q : iST → Prop) (u : iST) : Prop :=
  rd (u.1 14) (fun v2 => 
  ov (v2 - 1) (
  sw (iI u 14 (v2 - 1)) (fun u => 
  Q u)))
set_option maxRecDepth 20000 in
set_option maxHeartbeats 4000000 in
theorem f_4_leave_32 (X : yX RX4 p m c cX4_leave 2 s args D ca ad A) (hRf : 2 ≤ R.frames) (hRl : 81 ≤ R.locals) {Q : iST → Prop} (hret : ∀ (u : iST) (H : Heap) (locs : List Loc) (ls : Array Slot) (pc : Nat), Q u → yW D ca A ad s H locs u → decode cX4_leave pc = .ok (.return_, 1) → W p l e R s m args below meth c H locs 0 0 Qf (F0 m pc ls [])) (hw : yW D ca A ad s H locs u) (hl : lv_has ls 2 [(0, .ref (ad 0 3))]) (h : v_4_leave_32 Q u) : W p l e R s m args below meth c H locs 0 0 Qf (F0 m 32 ls []) := by
  have hx := X.1.1
  have hb := X.1.2.1
  unfold v_4_leave_32 at h
  refine lv_aload_n hx hb dX4_leave_32 rfl (lv_at hl 0 rfl) ?_
  refine lv_dup hx hb dX4_leave_33 rfl ?_
  refine yg_4_24 X hw dX4_leave_34 h (fun v2 rv2 h => ?_)
  refine lv_iconst hx hb dX4_leave_37 (v := jI 1) rfl ?_
  refine k_isub hx hb dX4_leave_38 h (fun r3 h => ?_)
  refine yp_4_24 X hw r3 dX4_leave_39 h (fun H locs u hw h => ?_)
  exact hret _ _ _ _ _ h hw dX4_leave_42

def v_4_leave (a0 : Int) (Q : iST → Prop) (u : iST) : Prop :=
  rd (u.1 15) (fun v1 => 
  br (20 ≤ v1) (
    v_4_leave_32 Q u) (
    rd (u.1 15) (fun v4 => 
    bd v4 20 (
    v_1_copy (130 + v4) a0 (fun u => 
    rd (u.1 15) (fun v8 => 
    ov (v8 + 1) (
    sw (iI u 15 (v8 + 1)) (fun u => 
    v_4_leave_32 Q u)))) u))))
set_option maxRecDepth 20000 in
set_option maxHeartbeats 4000000 in
theorem f_4_leave_s (X : yX RX4 p m c cX4_leave 2 s args D ca ad A) (hRf : 2 ≤ R.frames) (hRl : 81 ≤ R.locals) {Q : iST → Prop} (hret : ∀ (u : iST) (H : Heap) (locs : List Loc) (ls : Array Slot) (pc : Nat), Q u → yW D ca A ad s H locs u → decode cX4_leave pc = .ok (.return_, 1) → W p l e R s m args below meth c H locs 0 0 Qf (F0 m pc ls [])) {a0 : Int} (ra0 : (0 ≤ a0 ∧ a0 < 408)) (hw : yW D ca A ad s H locs u) (hl : lv_has ls 2 [(0, .ref (ad 0 3)), (1, .ref (ad 4 a0.toNat))]) (h : v_4_leave a0 Q u) : W p l e R s m args below meth c H locs 0 0 Qf (F0 m 0 ls []) := by
  have hx := X.1.1
  have hb := X.1.2.1
  unfold v_4_leave at h
  refine lv_aload_n hx hb dX4_leave_0 rfl (lv_at hl 0 rfl) ?_
  refine yg_4_30 X hw dX4_leave_1 h (fun v1 rv1 h => ?_)
  refine lv_bipush hx hb dX4_leave_4 (v := jI 20) rfl ?_
  refine k_icmp_ge hx hb rv1 (by decide) dX4_leave_6 (tgt := 32) rfl h (fun h => ?_) (fun h => ?_)
  · exact f_4_leave_32 X hRf hRl hret hw (lv_sub hl [0] rfl) h
  · refine lv_aload_n hx hb dX4_leave_9 rfl (lv_at hl 0 rfl) ?_
    refine yg_4_27 X hw dX4_leave_10 ?_
    refine lv_aload_n hx hb dX4_leave_13 rfl (lv_at hl 0 rfl) ?_
    refine yg_4_30 X hw dX4_leave_14 h (fun v4 rv4 h => ?_)
    have q5 := h
    have r6 : (0 ≤ (130 + v4) ∧ (130 + v4) < 408) := ⟨by have := q5.1; omega, by have := q5.2.1; omega⟩
    refine yx_6 X hw rv4 dX4_leave_17 h (fun h => ?_)
    refine lv_aload_n hx hb dX4_leave_18 rfl (lv_at hl 1 rfl) ?_
    refine ycV (n := 1) (e_1_copy r6 ra0 h) 1 (65 + (130 + v4).toNat) (r := (RX1, TX1, 4)) rfl yG_4_66 yD_1_copy X hw rfl (yGf_clause (toNat_lt r6)) (Nat.le_trans (Nat.le_of_ble_eq_true rfl) hRf) (Nat.le_trans (Nat.le_of_ble_eq_true rfl) hRl) rfl hl.1 (Nat.le_of_ble_eq_true rfl) rfl dX4_leave_19 (fun u H locs h hw => ?_)
    refine lv_aload_n hx hb dX4_leave_22 rfl (lv_at hl 0 rfl) ?_
    refine lv_dup hx hb dX4_leave_23 rfl ?_
    refine yg_4_30 X hw dX4_leave_24 h (fun v8 rv8 h => ?_)
    refine lv_iconst hx hb dX4_leave_27 (v := jI 1) rfl ?_
    refine k_iadd hx hb dX4_leave_28 h (fun r9 h => ?_)
    refine yp_4_30 X hw r9 dX4_leave_29 h (fun H locs u hw h => ?_)
    exact f_4_leave_32 X hRf hRl hret hw (lv_sub hl [0] rfl) h

end
theorem e_4_leave {l : Launch} {a0 : Int} (ra0 : (0 ≤ a0 ∧ a0 < 408)) {Q : iST → Prop} {u : iST} (h : v_4_leave a0 Q u) : yMV l yX4_leave (.code yX4_leave cX4_leave 2 none :: wsN) { frames := 2, cells := 0, slots := 0, locals := 81 } (fun ad => [.ref (ad 0 3), .ref (ad 4 a0.toNat)]) Q u := yMV_of (own := RX4) rfl (by decide +kernel) (fun _ => Nat.le_of_ble_eq_true rfl) (fun X hRf hRl hret hw hl => f_4_leave_s X hRf hRl hret ra0 hw hl h)

/-! ProofHouse$Prover.rowOfOthers -/
theorem dX4_rowOfOthers_0 : decode cX4_rowOfOthers 0 = .ok (.iconst 0, 1) := by decide +kernel
theorem dX4_rowOfOthers_1 : decode cX4_rowOfOthers 1 = .ok (.istore_n 3, 1) := by decide +kernel
theorem dX4_rowOfOthers_2 : decode cX4_rowOfOthers 2 = .ok (.iconst 0, 1) := by decide +kernel
theorem dX4_rowOfOthers_3 : decode cX4_rowOfOthers 3 = .ok (.istore 4, 2) := by decide +kernel
theorem dX4_rowOfOthers_5 : decode cX4_rowOfOthers 5 = .ok (.iload 4, 2) := by decide +kernel
theorem dX4_rowOfOthers_7 : decode cX4_rowOfOthers 7 = .ok (.aload_n 1, 1) := by decide +kernel
theorem dX4_rowOfOthers_8 : decode cX4_rowOfOthers 8 = .ok (.getfield 84, 3) := by decide +kernel
theorem dX4_rowOfOthers_11 : decode cX4_rowOfOthers 11 = .ok (.if_icmp .ge 51, 3) := by decide +kernel
theorem dX4_rowOfOthers_14 : decode cX4_rowOfOthers 14 = .ok (.aload_n 0, 1) := by decide +kernel
theorem dX4_rowOfOthers_15 : decode cX4_rowOfOthers 15 = .ok (.getfield 42, 3) := by decide +kernel
theorem dX4_rowOfOthers_18 : decode cX4_rowOfOthers 18 = .ok (.getfield 63, 3) := by decide +kernel
theorem dX4_rowOfOthers_21 : decode cX4_rowOfOthers 21 = .ok (.ifCond .ne 41, 3) := by decide +kernel
theorem dX4_rowOfOthers_24 : decode cX4_rowOfOthers 24 = .ok (.iload 4, 2) := by decide +kernel
theorem dX4_rowOfOthers_26 : decode cX4_rowOfOthers 26 = .ok (.iload_n 2, 1) := by decide +kernel
theorem dX4_rowOfOthers_27 : decode cX4_rowOfOthers 27 = .ok (.if_icmp .eq 29, 3) := by decide +kernel
theorem dX4_rowOfOthers_30 : decode cX4_rowOfOthers 30 = .ok (.aload_n 0, 1) := by decide +kernel
theorem dX4_rowOfOthers_31 : decode cX4_rowOfOthers 31 = .ok (.getfield 42, 3) := by decide +kernel
theorem dX4_rowOfOthers_34 : decode cX4_rowOfOthers 34 = .ok (.aload_n 0, 1) := by decide +kernel
theorem dX4_rowOfOthers_35 : decode cX4_rowOfOthers 35 = .ok (.getfield 46, 3) := by decide +kernel
theorem dX4_rowOfOthers_38 : decode cX4_rowOfOthers 38 = .ok (.aload_n 1, 1) := by decide +kernel
theorem dX4_rowOfOthers_39 : decode cX4_rowOfOthers 39 = .ok (.getfield 87, 3) := by decide +kernel
theorem dX4_rowOfOthers_42 : decode cX4_rowOfOthers 42 = .ok (.iload 4, 2) := by decide +kernel
theorem dX4_rowOfOthers_44 : decode cX4_rowOfOthers 44 = .ok (.iaload, 1) := by decide +kernel
theorem dX4_rowOfOthers_45 : decode cX4_rowOfOthers 45 = .ok (.invokevirtual 133, 3) := by decide +kernel
theorem dX4_rowOfOthers_48 : decode cX4_rowOfOthers 48 = .ok (.iload_n 3, 1) := by decide +kernel
theorem dX4_rowOfOthers_49 : decode cX4_rowOfOthers 49 = .ok (.invokestatic 137, 3) := by decide +kernel
theorem dX4_rowOfOthers_52 : decode cX4_rowOfOthers 52 = .ok (.invokevirtual 141, 3) := by decide +kernel
theorem dX4_rowOfOthers_55 : decode cX4_rowOfOthers 55 = .ok (.istore_n 3, 1) := by decide +kernel
theorem dX4_rowOfOthers_56 : decode cX4_rowOfOthers 56 = .ok (.iinc 4 1, 3) := by decide +kernel
theorem dX4_rowOfOthers_59 : decode cX4_rowOfOthers 59 = .ok (.goto (-54), 3) := by decide +kernel
theorem dX4_rowOfOthers_62 : decode cX4_rowOfOthers 62 = .ok (.iload_n 3, 1) := by decide +kernel
theorem dX4_rowOfOthers_63 : decode cX4_rowOfOthers 63 = .ok (.ireturn, 1) := by decide +kernel

section
variable {p : Program} {l : Launch} {e : Env} {R : Room} {s : State} {m : MethodId} {args : Array Value} {below : List Frame} {meth : Method} {c : Code} {H : Heap} {locs : List Loc} {Qf : State → Prop}
variable {ls : Array Slot} {D : va_G} {ca : Nat → ClassId} {A : Nat → Prop} {ad : Nat → Nat → Nat} {u : iST}
def v_4_rowOfOthers_5b (R5 : Int → Int → Int → Int → iST → Prop) (Q : Int → iST → Prop) (x1 : Int) (x2 : Int) (x3 : Int) (x4 : Int) (u : iST) : Prop :=
  rd (u.2.1 46 x1) (fun v1 => 
  br (v1 ≤ x4) (
    Q x3 u) (
    rd (u.1 32) (fun v2 => 
    br (v2 ≠ 0) (
      Q x3 u) (
      br (x4 = x2) (
        ov (x4 + 1) (
        R5 x1 x2 x3 (x4 + 1) u)) (
        bd x4 30 (rd (u.2.1 49 (30 * x1 + x4)) (fun v4 => 
        v_10_negated v4 (fun v5 u => 
        v_11_pairCell v5 x3 (fun v6 u => 
        v_7_made v6 (fun v7 u => 
        ov (x4 + 1) (
        R5 x1 x2 v7 (x4 + 1) u)) u) u) u)))))))
def v_4_rowOfOthers_5 (Q : Int → iST → Prop) (x1 : Int) (x2 : Int) (x3 : Int) (x4 : Int) (u : iST) : Prop := ∀ R5 : Int → Int → Int → Int → iST → Prop, (∀ (x1 : Int) (x2 : Int) (x3 : Int) (x4 : Int) (u : iST), v_4_rowOfOthers_5b R5 Q x1 x2 x3 x4 u → R5 x1 x2 x3 x4 u) → R5 x1 x2 x3 x4 u
set_option maxRecDepth 20000 in
set_option maxHeartbeats 4000000 in
theorem f_4_rowOfOthers_5 (X : yX RX4 p m c cX4_rowOfOthers 5 s args D ca ad A) (hRf : 3 ≤ R.frames) (hRl : 77 ≤ R.locals) {Q : Int → iST → Prop} (hret : ∀ (v : Int) (u : iST) (H : Heap) (locs : List Loc) (ls : Array Slot) (pc : Nat), inR v → Q v u → yW D ca A ad s H locs u → decode cX4_rowOfOthers pc = .ok (.ireturn, 1) → W p l e R s m args below meth c H locs 0 0 Qf (F0 m pc ls [.int (jI v)])) {x1 x2 x3 x4 : Int} (rx1 : (0 ≤ x1 ∧ x1 < 408)) (rx2 : inR x2) (rx3 : inR x3) (rx4 : inR x4) (hw : yW D ca A ad s H locs u) (hl : lv_has ls 5 [(0, .ref (ad 0 3)), (1, .ref (ad 4 x1.toNat)), (2, .int (jI x2)), (3, .int (jI x3)), (4, .int (jI x4))]) (h : v_4_rowOfOthers_5 Q x1 x2 x3 x4 u) : W p l e R s m args below meth c H locs 0 0 Qf (F0 m 5 ls []) := by
  refine h (fun x1 x2 x3 x4 u => ∀ (H : Heap) (locs : List Loc) (ls : Array Slot), (0 ≤ x1 ∧ x1 < 408) → inR x2 → inR x3 → inR x4 → yW D ca A ad s H locs u → lv_has ls 5 [(0, .ref (ad 0 3)), (1, .ref (ad 4 x1.toNat)), (2, .int (jI x2)), (3, .int (jI x3)), (4, .int (jI x4))] → W p l e R s m args below meth c H locs 0 0 Qf (F0 m 5 ls [])) ?_ H locs ls rx1 rx2 rx3 rx4 hw hl
  clear h hl hw rx1 rx2 rx3 rx4
  intro x1 x2 x3 x4 u h H locs ls rx1 rx2 rx3 rx4 hw hl
  have hR5 : ∀ (x1 : Int) (x2 : Int) (x3 : Int) (x4 : Int) (u : iST) (H : Heap) (locs : List Loc) (ls : Array Slot), (0 ≤ x1 ∧ x1 < 408) → inR x2 → inR x3 → inR x4 → yW D ca A ad s H locs u → lv_has ls 5 [(0, .ref (ad 0 3)), (1, .ref (ad 4 x1.toNat)), (2, .int (jI x2)), (3, .int (jI x3)), (4, .int (jI x4))] → (fun (x1 : Int) (x2 : Int) (x3 : Int) (x4 : Int) u => ∀ (H : Heap) (locs : List Loc) (ls : Array Slot), (0 ≤ x1 ∧ x1 < 408) → inR x2 → inR x3 → inR x4 → yW D ca A ad s H locs u → lv_has ls 5 [(0, .ref (ad 0 3)), (1, .ref (ad 4 x1.toNat)), (2, .int (jI x2)), (3, .int (jI x3)), (4, .int (jI x4))] → W p l e R s m args below meth c H locs 0 0 Qf (F0 m 5 ls [])) x1 x2 x3 x4 u → W p l e R s m args below meth c H locs 0 0 Qf (F0 m 5 ls []) := fun x1 x2 x3 x4 u H locs ls rx1 rx2 rx3 rx4 hw hl h => h H locs ls rx1 rx2 rx3 rx4 hw hl
  have hx := X.1.1
  have hb := X.1.2.1
  unfold v_4_rowOfOthers_5b at h
  refine lv_iload hx hb dX4_rowOfOthers_5 (lv_at hl 4 rfl) ?_
  refine lv_aload_n hx hb dX4_rowOfOthers_7 rfl (lv_at hl 1 rfl) ?_
  refine yg_4_84 X hw dX4_rowOfOthers_8 rx1 h (fun v1 rv1 h => ?_)
  refine k_icmp_ge hx hb rx4 rv1 dX4_rowOfOthers_11 (tgt := 62) rfl h (fun h => ?_) (fun h => ?_)
  · refine lv_iload_n hx hb dX4_rowOfOthers_62 rfl (lv_at hl 3 rfl) ?_
    exact hret _ _ _ _ _ _ rx3 h hw dX4_rowOfOthers_63
  · refine lv_aload_n hx hb dX4_rowOfOthers_14 rfl (lv_at hl 0 rfl) ?_
    refine yg_4_42 X hw dX4_rowOfOthers_15 ?_
    refine yg_4_63 X hw dX4_rowOfOthers_18 h (fun v2 rv2 h => ?_)
    refine k_if_ne hx hb rv2 dX4_rowOfOthers_21 (tgt := 62) rfl h (fun h => ?_) (fun h => ?_)
    · refine lv_iload_n hx hb dX4_rowOfOthers_62 rfl (lv_at hl 3 rfl) ?_
      exact hret _ _ _ _ _ _ rx3 h hw dX4_rowOfOthers_63
    · refine lv_iload hx hb dX4_rowOfOthers_24 (lv_at hl 4 rfl) ?_
      refine lv_iload_n hx hb dX4_rowOfOthers_26 rfl (lv_at hl 2 rfl) ?_
      refine k_icmp_eq hx hb rx4 rx2 dX4_rowOfOthers_27 (tgt := 56) rfl h (fun h => ?_) (fun h => ?_)
      · refine k_iinc (k := 4) hx hb dX4_rowOfOthers_56 hl rfl (by decide) rfl h (fun ls r3 h hl => ?_)
        have hl : lv_has ls 5 [(4, .int (jI (x4 + 1))), (0, .ref (ad 0 3)), (1, .ref (ad 4 x1.toNat)), (2, .int (jI x2)), (3, .int (jI x3))] := hl
        refine lv_goto hx hb dX4_rowOfOthers_59 (tgt := 5) rfl ?_
        exact hR5 _ _ _ _ _ H locs ls rx1 rx2 rx3 r3 hw (lv_sub hl [1, 2, 3, 4, 0] rfl) h
      · refine lv_aload_n hx hb dX4_rowOfOthers_30 rfl (lv_at hl 0 rfl) ?_
        refine yg_4_42 X hw dX4_rowOfOthers_31 ?_
        refine lv_aload_n hx hb dX4_rowOfOthers_34 rfl (lv_at hl 0 rfl) ?_
        refine yg_4_46 X hw dX4_rowOfOthers_35 ?_
        refine lv_aload_n hx hb dX4_rowOfOthers_38 rfl (lv_at hl 1 rfl) ?_
        refine yg_4_87 X hw dX4_rowOfOthers_39 rx1 ?_
        refine lv_iload hx hb dX4_rowOfOthers_42 (lv_at hl 4 rfl) ?_
        refine yfl_lits X hw rx1 rx4 dX4_rowOfOthers_44 h (fun v4 rv4 h => ?_)
        refine ycI (n := 1) (e_10_negated rv4 h) 10 8 (r := (RX10, TX10, 16)) rfl yG_4_133 yD_10_negated X hw rfl yGo_10 (Nat.le_trans (Nat.le_of_ble_eq_true rfl) hRf) (Nat.le_trans (Nat.le_of_ble_eq_true rfl) hRl) rfl hl.1 (Nat.le_of_ble_eq_true rfl) rfl dX4_rowOfOthers_45 (fun v5 u H locs rv5 h hw => ?_)
        refine lv_iload_n hx hb dX4_rowOfOthers_48 rfl (lv_at hl 3 rfl) ?_
        refine ycSN (n := 2) (e_11_pairCell rv5 rx3 h) (host := "ProofHouse") rfl goodPair yD_11_pairCell.2 X hw (yNm_4_137 X.2.2.1) (ysI_in (List.mem_of_getElem? (i := 11) rfl)) statPair (Nat.le_trans (Nat.le_of_ble_eq_true rfl) hRf) (Nat.le_trans (Nat.le_of_ble_eq_true rfl) hRl) rfl hl.1 (Nat.le_of_ble_eq_true rfl) rfl dX4_rowOfOthers_49 (fun v6 u H locs rv6 h hw => ?_)
        refine ycI (n := 1) (e_7_made rv6 h) 7 6 (r := (RX7, TX7, 9)) rfl yG_4_141 yD_7_made X hw rfl yGo_7 (Nat.le_trans (Nat.le_of_ble_eq_true rfl) hRf) (Nat.le_trans (Nat.le_of_ble_eq_true rfl) hRl) rfl hl.1 (Nat.le_of_ble_eq_true rfl) rfl dX4_rowOfOthers_52 (fun v7 u H locs rv7 h hw => ?_)
        refine lv_istore_n hx hb dX4_rowOfOthers_55 rfl hl (by decide) rfl (fun ls hl => ?_)
        have hl : lv_has ls 5 [(3, .int (jI v7)), (0, .ref (ad 0 3)), (1, .ref (ad 4 x1.toNat)), (2, .int (jI x2)), (4, .int (jI x4))] := hl
        refine k_iinc (k := 4) hx hb dX4_rowOfOthers_56 hl rfl (by decide) rfl h (fun ls r8 h hl => ?_)
        have hl : lv_has ls 5 [(4, .int (jI (x4 + 1))), (3, .int (jI v7)), (0, .ref (ad 0 3)), (1, .ref (ad 4 x1.toNat)), (2, .int (jI x2))] := hl
        refine lv_goto hx hb dX4_rowOfOthers_59 (tgt := 5) rfl ?_
        exact hR5 _ _ _ _ _ H locs ls rx1 rx2 rv7 r8 hw (lv_sub hl [2, 3, 4, 1, 0] rfl) h

def v_4_rowOfOthers (a0 : Int) (a1 : Int) (Q : Int → iST → Prop) (u : iST) : Prop :=
  v_4_rowOfOthers_5 Q a0 a1 0 0 u
set_option maxRecDepth 20000 in
set_option maxHeartbeats 4000000 in
theorem f_4_rowOfOthers_s (X : yX RX4 p m c cX4_rowOfOthers 5 s args D ca ad A) (hRf : 3 ≤ R.frames) (hRl : 77 ≤ R.locals) {Q : Int → iST → Prop} (hret : ∀ (v : Int) (u : iST) (H : Heap) (locs : List Loc) (ls : Array Slot) (pc : Nat), inR v → Q v u → yW D ca A ad s H locs u → decode cX4_rowOfOthers pc = .ok (.ireturn, 1) → W p l e R s m args below meth c H locs 0 0 Qf (F0 m pc ls [.int (jI v)])) {a0 a1 : Int} (ra0 : (0 ≤ a0 ∧ a0 < 408)) (ra1 : inR a1) (hw : yW D ca A ad s H locs u) (hl : lv_has ls 5 [(0, .ref (ad 0 3)), (1, .ref (ad 4 a0.toNat)), (2, .int (jI a1))]) (h : v_4_rowOfOthers a0 a1 Q u) : W p l e R s m args below meth c H locs 0 0 Qf (F0 m 0 ls []) := by
  have hx := X.1.1
  have hb := X.1.2.1
  unfold v_4_rowOfOthers at h
  refine lv_iconst hx hb dX4_rowOfOthers_0 (v := jI 0) rfl ?_
  refine lv_istore_n hx hb dX4_rowOfOthers_1 rfl hl (by decide) rfl (fun ls hl => ?_)
  have hl : lv_has ls 5 [(3, .int (jI 0)), (0, .ref (ad 0 3)), (1, .ref (ad 4 a0.toNat)), (2, .int (jI a1))] := hl
  refine lv_iconst hx hb dX4_rowOfOthers_2 (v := jI 0) rfl ?_
  refine lv_istore hx hb dX4_rowOfOthers_3 hl (by decide) rfl (fun ls hl => ?_)
  have hl : lv_has ls 5 [(4, .int (jI 0)), (3, .int (jI 0)), (0, .ref (ad 0 3)), (1, .ref (ad 4 a0.toNat)), (2, .int (jI a1))] := hl
  exact f_4_rowOfOthers_5 X hRf hRl hret ra0 ra1 (by decide) (by decide) hw (lv_sub hl [2, 3, 4, 1, 0] rfl) h

end
theorem e_4_rowOfOthers {l : Launch} {a0 : Int} {a1 : Int} (ra0 : (0 ≤ a0 ∧ a0 < 408)) (ra1 : inR a1) {Q : Int → iST → Prop} {u : iST} (h : v_4_rowOfOthers a0 a1 Q u) : yMI l yX4_rowOfOthers (.code yX4_rowOfOthers cX4_rowOfOthers 5 (some .int) :: wsN) { frames := 3, cells := 0, slots := 0, locals := 77 } (fun ad => [.ref (ad 0 3), .ref (ad 4 a0.toNat), .int (jI a1)]) Q u := yMI_of (own := RX4) rfl (by decide +kernel) (fun _ => Nat.le_of_ble_eq_true rfl) (fun X hRf hRl hret hw hl => f_4_rowOfOthers_s X hRf hRl hret ra0 ra1 hw hl h)

/-! ProofHouse$Rewriter.recalled -/
theorem dX6_recalled_0 : decode cX6_recalled 0 = .ok (.aload_n 0, 1) := by decide +kernel
theorem dX6_recalled_1 : decode cX6_recalled 1 = .ok (.getfield 36, 3) := by decide +kernel
theorem dX6_recalled_4 : decode cX6_recalled 4 = .ok (.ifCond .lt 14, 3) := by decide +kernel
theorem dX6_recalled_7 : decode cX6_recalled 7 = .ok (.aload_n 0, 1) := by decide +kernel
theorem dX6_recalled_8 : decode cX6_recalled 8 = .ok (.getfield 36, 3) := by decide +kernel
theorem dX6_recalled_11 : decode cX6_recalled 11 = .ok (.aload_n 0, 1) := by decide +kernel
theorem dX6_recalled_12 : decode cX6_recalled 12 = .ok (.getfield 29, 3) := by decide +kernel
theorem dX6_recalled_15 : decode cX6_recalled 15 = .ok (.if_icmp .lt 5, 3) := by decide +kernel
theorem dX6_recalled_18 : decode cX6_recalled 18 = .ok (.iconst (-1), 1) := by decide +kernel
theorem dX6_recalled_19 : decode cX6_recalled 19 = .ok (.ireturn, 1) := by decide +kernel
theorem dX6_recalled_20 : decode cX6_recalled 20 = .ok (.aload_n 0, 1) := by decide +kernel
theorem dX6_recalled_21 : decode cX6_recalled 21 = .ok (.getfield 26, 3) := by decide +kernel
theorem dX6_recalled_24 : decode cX6_recalled 24 = .ok (.aload_n 0, 1) := by decide +kernel
theorem dX6_recalled_25 : decode cX6_recalled 25 = .ok (.getfield 36, 3) := by decide +kernel
theorem dX6_recalled_28 : decode cX6_recalled 28 = .ok (.aaload, 1) := by decide +kernel
theorem dX6_recalled_29 : decode cX6_recalled 29 = .ok (.astore 4, 2) := by decide +kernel
theorem dX6_recalled_31 : decode cX6_recalled 31 = .ok (.aload 4, 2) := by decide +kernel
theorem dX6_recalled_33 : decode cX6_recalled 33 = .ok (.iconst 0, 1) := by decide +kernel
theorem dX6_recalled_34 : decode cX6_recalled 34 = .ok (.iaload, 1) := by decide +kernel
theorem dX6_recalled_35 : decode cX6_recalled 35 = .ok (.iload_n 1, 1) := by decide +kernel
theorem dX6_recalled_36 : decode cX6_recalled 36 = .ok (.if_icmp .ne 19, 3) := by decide +kernel
theorem dX6_recalled_39 : decode cX6_recalled 39 = .ok (.aload 4, 2) := by decide +kernel
theorem dX6_recalled_41 : decode cX6_recalled 41 = .ok (.iconst 1, 1) := by decide +kernel
theorem dX6_recalled_42 : decode cX6_recalled 42 = .ok (.iaload, 1) := by decide +kernel
theorem dX6_recalled_43 : decode cX6_recalled 43 = .ok (.iload_n 2, 1) := by decide +kernel
theorem dX6_recalled_44 : decode cX6_recalled 44 = .ok (.if_icmp .ne 11, 3) := by decide +kernel
theorem dX6_recalled_47 : decode cX6_recalled 47 = .ok (.aload 4, 2) := by decide +kernel
theorem dX6_recalled_49 : decode cX6_recalled 49 = .ok (.iconst 2, 1) := by decide +kernel
theorem dX6_recalled_50 : decode cX6_recalled 50 = .ok (.iaload, 1) := by decide +kernel
theorem dX6_recalled_51 : decode cX6_recalled 51 = .ok (.iload_n 3, 1) := by decide +kernel
theorem dX6_recalled_52 : decode cX6_recalled 52 = .ok (.if_icmp .eq 5, 3) := by decide +kernel
theorem dX6_recalled_55 : decode cX6_recalled 55 = .ok (.iconst (-1), 1) := by decide +kernel
theorem dX6_recalled_56 : decode cX6_recalled 56 = .ok (.ireturn, 1) := by decide +kernel
theorem dX6_recalled_57 : decode cX6_recalled 57 = .ok (.aload_n 0, 1) := by decide +kernel
theorem dX6_recalled_58 : decode cX6_recalled 58 = .ok (.aload 4, 2) := by decide +kernel
theorem dX6_recalled_60 : decode cX6_recalled 60 = .ok (.iconst 4, 1) := by decide +kernel
theorem dX6_recalled_61 : decode cX6_recalled 61 = .ok (.iaload, 1) := by decide +kernel
theorem dX6_recalled_62 : decode cX6_recalled 62 = .ok (.putfield 36, 3) := by decide +kernel
theorem dX6_recalled_65 : decode cX6_recalled 65 = .ok (.aload 4, 2) := by decide +kernel
theorem dX6_recalled_67 : decode cX6_recalled 67 = .ok (.iconst 3, 1) := by decide +kernel
theorem dX6_recalled_68 : decode cX6_recalled 68 = .ok (.iaload, 1) := by decide +kernel
theorem dX6_recalled_69 : decode cX6_recalled 69 = .ok (.ireturn, 1) := by decide +kernel

section
variable {p : Program} {l : Launch} {e : Env} {R : Room} {s : State} {m : MethodId} {args : Array Value} {below : List Frame} {meth : Method} {c : Code} {H : Heap} {locs : List Loc} {Qf : State → Prop}
variable {ls : Array Slot} {D : va_G} {ca : Nat → ClassId} {A : Nat → Prop} {ad : Nat → Nat → Nat} {u : iST}
def v_6_recalled (a0 : Int) (a1 : Int) (a2 : Int) (Q : Int → iST → Prop) (u : iST) : Prop :=
  rd (u.1 28) (fun v1 => 
  br (v1 < 0) (
    Q (-1) u) (
    rd (u.1 28) (fun v2 => 
    rd (u.1 26) (fun v3 => 
    br (v2 < v3) (
      rd (u.1 28) (fun v4 => 
      bd v4 1000 (
      bd 0 5 (rd (u.2.1 52 (5 * v4 + 0)) (fun v7 => 
      br (v7 ≠ a0) (
        Q (-1) u) (
        bd 1 5 (rd (u.2.1 52 (5 * v4 + 1)) (fun v8 => 
        br (v8 ≠ a1) (
          Q (-1) u) (
          bd 2 5 (rd (u.2.1 52 (5 * v4 + 2)) (fun v9 => 
          br (v9 = a2) (
            bd 4 5 (rd (u.2.1 52 (5 * v4 + 4)) (fun v10 => 
            sw (iI u 28 v10) (fun u => 
            bd 3 5 (rd (u.2.1 52 (5 * v4 + 3)) (fun v11 => 
            Q v11 u)))))) (
            Q (-1) u)))))))))))) (
      Q (-1) u)))))
set_option maxRecDepth 20000 in
set_option maxHeartbeats 4000000 in
theorem f_6_recalled_s (X : yX RX6 p m c cX6_recalled 5 s args D ca ad A) (hRf : 0 ≤ R.frames) (hRl : 0 ≤ R.locals) {Q : Int → iST → Prop} (hret : ∀ (v : Int) (u : iST) (H : Heap) (locs : List Loc) (ls : Array Slot) (pc : Nat), inR v → Q v u → yW D ca A ad s H locs u → decode cX6_recalled pc = .ok (.ireturn, 1) → W p l e R s m args below meth c H locs 0 0 Qf (F0 m pc ls [.int (jI v)])) {a0 a1 a2 : Int} (ra0 : inR a0) (ra1 : inR a1) (ra2 : inR a2) (hw : yW D ca A ad s H locs u) (hl : lv_has ls 5 [(0, .ref (ad 0 5)), (1, .int (jI a0)), (2, .int (jI a1)), (3, .int (jI a2))]) (h : v_6_recalled a0 a1 a2 Q u) : W p l e R s m args below meth c H locs 0 0 Qf (F0 m 0 ls []) := by
  have hx := X.1.1
  have hb := X.1.2.1
  unfold v_6_recalled at h
  refine lv_aload_n hx hb dX6_recalled_0 rfl (lv_at hl 0 rfl) ?_
  refine yg_6_36 X hw dX6_recalled_1 h (fun v1 rv1 h => ?_)
  refine k_if_lt hx hb rv1 dX6_recalled_4 (tgt := 18) rfl h (fun h => ?_) (fun h => ?_)
  · refine lv_iconst hx hb dX6_recalled_18 (v := jI (-1)) rfl ?_
    exact hret _ _ _ _ _ _ (by decide) h hw dX6_recalled_19
  · refine lv_aload_n hx hb dX6_recalled_7 rfl (lv_at hl 0 rfl) ?_
    refine yg_6_36 X hw dX6_recalled_8 h (fun v2 rv2 h => ?_)
    refine lv_aload_n hx hb dX6_recalled_11 rfl (lv_at hl 0 rfl) ?_
    refine yg_6_29 X hw dX6_recalled_12 h (fun v3 rv3 h => ?_)
    refine k_icmp_lt hx hb rv2 rv3 dX6_recalled_15 (tgt := 20) rfl h (fun h => ?_) (fun h => ?_)
    · refine lv_aload_n hx hb dX6_recalled_20 rfl (lv_at hl 0 rfl) ?_
      refine yg_6_26 X hw dX6_recalled_21 ?_
      refine lv_aload_n hx hb dX6_recalled_24 rfl (lv_at hl 0 rfl) ?_
      refine yg_6_36 X hw dX6_recalled_25 h (fun v4 rv4 h => ?_)
      have q5 := h
      have r6 : (0 ≤ v4 ∧ v4 < 1000) := ⟨q5.1, by have := q5.2.1; omega⟩
      refine yx_2 X hw rv4 dX6_recalled_28 h (fun h => ?_)
      refine lv_astore hx hb dX6_recalled_29 hl (by decide) rfl (fun ls hl => ?_)
      have hl : lv_has ls 5 [(4, .ref (ad 8 v4.toNat)), (0, .ref (ad 0 5)), (1, .int (jI a0)), (2, .int (jI a1)), (3, .int (jI a2))] := hl
      refine lv_aload hx hb dX6_recalled_31 (lv_at hl 0 rfl) ?_
      refine lv_iconst hx hb dX6_recalled_33 (v := jI 0) rfl ?_
      refine yfl_notes X hw r6 (by decide) dX6_recalled_34 h (fun v7 rv7 h => ?_)
      refine lv_iload_n hx hb dX6_recalled_35 rfl (lv_at hl 2 rfl) ?_
      refine k_icmp_ne hx hb rv7 ra0 dX6_recalled_36 (tgt := 55) rfl h (fun h => ?_) (fun h => ?_)
      · refine lv_iconst hx hb dX6_recalled_55 (v := jI (-1)) rfl ?_
        exact hret _ _ _ _ _ _ (by decide) h hw dX6_recalled_56
      · refine lv_aload hx hb dX6_recalled_39 (lv_at hl 0 rfl) ?_
        refine lv_iconst hx hb dX6_recalled_41 (v := jI 1) rfl ?_
        refine yfl_notes X hw r6 (by decide) dX6_recalled_42 h (fun v8 rv8 h => ?_)
        refine lv_iload_n hx hb dX6_recalled_43 rfl (lv_at hl 3 rfl) ?_
        refine k_icmp_ne hx hb rv8 ra1 dX6_recalled_44 (tgt := 55) rfl h (fun h => ?_) (fun h => ?_)
        · refine lv_iconst hx hb dX6_recalled_55 (v := jI (-1)) rfl ?_
          exact hret _ _ _ _ _ _ (by decide) h hw dX6_recalled_56
        · refine lv_aload hx hb dX6_recalled_47 (lv_at hl 0 rfl) ?_
          refine lv_iconst hx hb dX6_recalled_49 (v := jI 2) rfl ?_
          refine yfl_notes X hw r6 (by decide) dX6_recalled_50 h (fun v9 rv9 h => ?_)
          refine lv_iload_n hx hb dX6_recalled_51 rfl (lv_at hl 4 rfl) ?_
          refine k_icmp_eq hx hb rv9 ra2 dX6_recalled_52 (tgt := 57) rfl h (fun h => ?_) (fun h => ?_)
          · refine lv_aload_n hx hb dX6_recalled_57 rfl (lv_at hl 1 rfl) ?_
            refine lv_aload hx hb dX6_recalled_58 (lv_at hl 0 rfl) ?_
            refine lv_iconst hx hb dX6_recalled_60 (v := jI 4) rfl ?_
            refine yfl_notes X hw r6 (by decide) dX6_recalled_61 h (fun v10 rv10 h => ?_)
            refine yp_6_36 X hw rv10 dX6_recalled_62 h (fun H locs u hw h => ?_)
            refine lv_aload hx hb dX6_recalled_65 (lv_at hl 0 rfl) ?_
            refine lv_iconst hx hb dX6_recalled_67 (v := jI 3) rfl ?_
            refine yfl_notes X hw r6 (by decide) dX6_recalled_68 h (fun v11 rv11 h => ?_)
            exact hret _ _ _ _ _ _ rv11 h hw dX6_recalled_69
          · refine lv_iconst hx hb dX6_recalled_55 (v := jI (-1)) rfl ?_
            exact hret _ _ _ _ _ _ (by decide) h hw dX6_recalled_56
    · refine lv_iconst hx hb dX6_recalled_18 (v := jI (-1)) rfl ?_
      exact hret _ _ _ _ _ _ (by decide) h hw dX6_recalled_19

end
theorem e_6_recalled {l : Launch} {a0 : Int} {a1 : Int} {a2 : Int} (ra0 : inR a0) (ra1 : inR a1) (ra2 : inR a2) {Q : Int → iST → Prop} {u : iST} (h : v_6_recalled a0 a1 a2 Q u) : yMI l yX6_recalled (.code yX6_recalled cX6_recalled 5 (some .int) :: wsN) { frames := 0, cells := 0, slots := 0, locals := 0 } (fun ad => [.ref (ad 0 5), .int (jI a0), .int (jI a1), .int (jI a2)]) Q u := yMI_of (own := RX6) rfl (by decide +kernel) (fun _ => Nat.le_of_ble_eq_true rfl) (fun X hRf hRl hret hw hl => f_6_recalled_s X hRf hRl hret ra0 ra1 ra2 hw hl h)

/-! ProofHouse$Rewriter.ask -/
theorem dX6_ask_0 : decode cX6_ask 0 = .ok (.aload_n 0, 1) := by decide +kernel
theorem dX6_ask_1 : decode cX6_ask 1 = .ok (.getfield 32, 3) := by decide +kernel
theorem dX6_ask_4 : decode cX6_ask 4 = .ok (.ifCond .eq 40, 3) := by decide +kernel
theorem dX6_ask_7 : decode cX6_ask 7 = .ok (.aload_n 0, 1) := by decide +kernel
theorem dX6_ask_8 : decode cX6_ask 8 = .ok (.getfield 16, 3) := by decide +kernel
theorem dX6_ask_11 : decode cX6_ask 11 = .ok (.ifCond .le 33, 3) := by decide +kernel
theorem dX6_ask_14 : decode cX6_ask 14 = .ok (.aload_n 0, 1) := by decide +kernel
theorem dX6_ask_15 : decode cX6_ask 15 = .ok (.aload_n 0, 1) := by decide +kernel
theorem dX6_ask_16 : decode cX6_ask 16 = .ok (.iload_n 1, 1) := by decide +kernel
theorem dX6_ask_17 : decode cX6_ask 17 = .ok (.iload_n 2, 1) := by decide +kernel
theorem dX6_ask_18 : decode cX6_ask 18 = .ok (.iload_n 3, 1) := by decide +kernel
theorem dX6_ask_19 : decode cX6_ask 19 = .ok (.invokevirtual 148, 3) := by decide +kernel
theorem dX6_ask_22 : decode cX6_ask 22 = .ok (.putfield 20, 3) := by decide +kernel
theorem dX6_ask_25 : decode cX6_ask 25 = .ok (.aload_n 0, 1) := by decide +kernel
theorem dX6_ask_26 : decode cX6_ask 26 = .ok (.getfield 20, 3) := by decide +kernel
theorem dX6_ask_29 : decode cX6_ask 29 = .ok (.iconst (-1), 1) := by decide +kernel
theorem dX6_ask_30 : decode cX6_ask 30 = .ok (.if_icmp .ne 146, 3) := by decide +kernel
theorem dX6_ask_33 : decode cX6_ask 33 = .ok (.aload_n 0, 1) := by decide +kernel
theorem dX6_ask_34 : decode cX6_ask 34 = .ok (.getfield 39, 3) := by decide +kernel
theorem dX6_ask_37 : decode cX6_ask 37 = .ok (.iconst 4, 1) := by decide +kernel
theorem dX6_ask_38 : decode cX6_ask 38 = .ok (.invokevirtual 152, 3) := by decide +kernel
theorem dX6_ask_41 : decode cX6_ask 41 = .ok (.goto 135, 3) := by decide +kernel
theorem dX6_ask_44 : decode cX6_ask 44 = .ok (.aload_n 0, 1) := by decide +kernel
theorem dX6_ask_45 : decode cX6_ask 45 = .ok (.getfield 16, 3) := by decide +kernel
theorem dX6_ask_48 : decode cX6_ask 48 = .ok (.bipush 60, 2) := by decide +kernel
theorem dX6_ask_50 : decode cX6_ask 50 = .ok (.if_icmp .lt 14, 3) := by decide +kernel
theorem dX6_ask_53 : decode cX6_ask 53 = .ok (.aload_n 0, 1) := by decide +kernel
theorem dX6_ask_54 : decode cX6_ask 54 = .ok (.getfield 39, 3) := by decide +kernel
theorem dX6_ask_57 : decode cX6_ask 57 = .ok (.iconst 2, 1) := by decide +kernel
theorem dX6_ask_58 : decode cX6_ask 58 = .ok (.invokevirtual 152, 3) := by decide +kernel
theorem dX6_ask_61 : decode cX6_ask 61 = .ok (.goto 115, 3) := by decide +kernel
theorem dX6_ask_64 : decode cX6_ask 64 = .ok (.aload_n 0, 1) := by decide +kernel
theorem dX6_ask_65 : decode cX6_ask 65 = .ok (.getfield 32, 3) := by decide +kernel
theorem dX6_ask_68 : decode cX6_ask 68 = .ok (.ifCond .ne 13, 3) := by decide +kernel
theorem dX6_ask_71 : decode cX6_ask 71 = .ok (.aload_n 0, 1) := by decide +kernel
theorem dX6_ask_72 : decode cX6_ask 72 = .ok (.getfield 39, 3) := by decide +kernel
theorem dX6_ask_75 : decode cX6_ask 75 = .ok (.invokevirtual 155, 3) := by decide +kernel
theorem dX6_ask_78 : decode cX6_ask 78 = .ok (.ifCond .eq 98, 3) := by decide +kernel
theorem dX6_ask_81 : decode cX6_ask 81 = .ok (.aload_n 0, 1) := by decide +kernel
theorem dX6_ask_82 : decode cX6_ask 82 = .ok (.getfield 13, 3) := by decide +kernel
theorem dX6_ask_85 : decode cX6_ask 85 = .ok (.aload_n 0, 1) := by decide +kernel
theorem dX6_ask_86 : decode cX6_ask 86 = .ok (.getfield 16, 3) := by decide +kernel
theorem dX6_ask_89 : decode cX6_ask 89 = .ok (.aaload, 1) := by decide +kernel
theorem dX6_ask_90 : decode cX6_ask 90 = .ok (.astore 4, 2) := by decide +kernel
theorem dX6_ask_92 : decode cX6_ask 92 = .ok (.aload 4, 2) := by decide +kernel
theorem dX6_ask_94 : decode cX6_ask 94 = .ok (.iconst 0, 1) := by decide +kernel
theorem dX6_ask_95 : decode cX6_ask 95 = .ok (.iload_n 1, 1) := by decide +kernel
theorem dX6_ask_96 : decode cX6_ask 96 = .ok (.iastore, 1) := by decide +kernel
theorem dX6_ask_97 : decode cX6_ask 97 = .ok (.aload 4, 2) := by decide +kernel
theorem dX6_ask_99 : decode cX6_ask 99 = .ok (.iconst 1, 1) := by decide +kernel
theorem dX6_ask_100 : decode cX6_ask 100 = .ok (.iload_n 2, 1) := by decide +kernel
theorem dX6_ask_101 : decode cX6_ask 101 = .ok (.iastore, 1) := by decide +kernel
theorem dX6_ask_102 : decode cX6_ask 102 = .ok (.aload 4, 2) := by decide +kernel
theorem dX6_ask_104 : decode cX6_ask 104 = .ok (.iconst 2, 1) := by decide +kernel
theorem dX6_ask_105 : decode cX6_ask 105 = .ok (.iload_n 3, 1) := by decide +kernel
theorem dX6_ask_106 : decode cX6_ask 106 = .ok (.iastore, 1) := by decide +kernel
theorem dX6_ask_107 : decode cX6_ask 107 = .ok (.aload 4, 2) := by decide +kernel
theorem dX6_ask_109 : decode cX6_ask 109 = .ok (.iconst 3, 1) := by decide +kernel
theorem dX6_ask_110 : decode cX6_ask 110 = .ok (.iconst 0, 1) := by decide +kernel
theorem dX6_ask_111 : decode cX6_ask 111 = .ok (.iastore, 1) := by decide +kernel
theorem dX6_ask_112 : decode cX6_ask 112 = .ok (.aload 4, 2) := by decide +kernel
theorem dX6_ask_114 : decode cX6_ask 114 = .ok (.iconst 4, 1) := by decide +kernel
theorem dX6_ask_115 : decode cX6_ask 115 = .ok (.aload_n 0, 1) := by decide +kernel
theorem dX6_ask_116 : decode cX6_ask 116 = .ok (.getfield 29, 3) := by decide +kernel
theorem dX6_ask_119 : decode cX6_ask 119 = .ok (.iastore, 1) := by decide +kernel
theorem dX6_ask_120 : decode cX6_ask 120 = .ok (.aload_n 0, 1) := by decide +kernel
theorem dX6_ask_121 : decode cX6_ask 121 = .ok (.dup, 1) := by decide +kernel
theorem dX6_ask_122 : decode cX6_ask 122 = .ok (.getfield 16, 3) := by decide +kernel
theorem dX6_ask_125 : decode cX6_ask 125 = .ok (.iconst 1, 1) := by decide +kernel
theorem dX6_ask_126 : decode cX6_ask 126 = .ok (.iadd, 1) := by decide +kernel
theorem dX6_ask_127 : decode cX6_ask 127 = .ok (.putfield 16, 3) := by decide +kernel
theorem dX6_ask_130 : decode cX6_ask 130 = .ok (.aload_n 0, 1) := by decide +kernel
theorem dX6_ask_131 : decode cX6_ask 131 = .ok (.getfield 32, 3) := by decide +kernel
theorem dX6_ask_134 : decode cX6_ask 134 = .ok (.ifCond .ne 42, 3) := by decide +kernel
theorem dX6_ask_137 : decode cX6_ask 137 = .ok (.aload_n 0, 1) := by decide +kernel
theorem dX6_ask_138 : decode cX6_ask 138 = .ok (.getfield 29, 3) := by decide +kernel
theorem dX6_ask_141 : decode cX6_ask 141 = .ok (.aload_n 0, 1) := by decide +kernel
theorem dX6_ask_142 : decode cX6_ask 142 = .ok (.getfield 26, 3) := by decide +kernel
theorem dX6_ask_145 : decode cX6_ask 145 = .ok (.arraylength, 1) := by decide +kernel
theorem dX6_ask_146 : decode cX6_ask 146 = .ok (.if_icmp .ge 30, 3) := by decide +kernel
theorem dX6_ask_149 : decode cX6_ask 149 = .ok (.aload 4, 2) := by decide +kernel
theorem dX6_ask_151 : decode cX6_ask 151 = .ok (.iconst 0, 1) := by decide +kernel
theorem dX6_ask_152 : decode cX6_ask 152 = .ok (.aload_n 0, 1) := by decide +kernel
theorem dX6_ask_153 : decode cX6_ask 153 = .ok (.getfield 26, 3) := by decide +kernel
theorem dX6_ask_156 : decode cX6_ask 156 = .ok (.aload_n 0, 1) := by decide +kernel
theorem dX6_ask_157 : decode cX6_ask 157 = .ok (.getfield 29, 3) := by decide +kernel
theorem dX6_ask_160 : decode cX6_ask 160 = .ok (.aaload, 1) := by decide +kernel
theorem dX6_ask_161 : decode cX6_ask 161 = .ok (.iconst 0, 1) := by decide +kernel
theorem dX6_ask_162 : decode cX6_ask 162 = .ok (.iconst 3, 1) := by decide +kernel
theorem dX6_ask_163 : decode cX6_ask 163 = .ok (.invokestatic 159, 3) := by decide +kernel
theorem dX6_ask_166 : decode cX6_ask 166 = .ok (.aload_n 0, 1) := by decide +kernel
theorem dX6_ask_167 : decode cX6_ask 167 = .ok (.dup, 1) := by decide +kernel
theorem dX6_ask_168 : decode cX6_ask 168 = .ok (.getfield 29, 3) := by decide +kernel
theorem dX6_ask_171 : decode cX6_ask 171 = .ok (.iconst 1, 1) := by decide +kernel
theorem dX6_ask_172 : decode cX6_ask 172 = .ok (.iadd, 1) := by decide +kernel
theorem dX6_ask_173 : decode cX6_ask 173 = .ok (.putfield 29, 3) := by decide +kernel
theorem dX6_ask_176 : decode cX6_ask 176 = .ok (.return_, 1) := by decide +kernel

section
variable {p : Program} {l : Launch} {e : Env} {R : Room} {s : State} {m : MethodId} {args : Array Value} {below : List Frame} {meth : Method} {c : Code} {H : Heap} {locs : List Loc} {Qf : State → Prop}
variable {ls : Array Slot} {D : va_G} {ca : Nat → ClassId} {A : Nat → Prop} {ad : Nat → Nat → Nat} {u : iST}
def v_6_ask_81 (Q : iST → Prop) (x1 : Int) (x2 : Int) (x3 : Int) (u : iST) : Prop :=
  rd (u.1 23) (fun v4 => 
  bd v4 60 (
  bd 0 17 (sw (iA u 51 (17 * v4 + 0) x1) (fun u => 
  bd 1 17 (sw (iA u 51 (17 * v4 + 1) x2) (fun u => 
  bd 2 17 (sw (iA u 51 (17 * v4 + 2) x3) (fun u => 
  bd 3 17 (sw (iA u 51 (17 * v4 + 3) 0) (fun u => 
  rd (u.1 26) (fun v7 => 
  bd 4 17 (sw (iA u 51 (17 * v4 + 4) v7) (fun u => 
  rd (u.1 23) (fun v8 => 
  ov (v8 + 1) (
  sw (iI u 23 (v8 + 1)) (fun u => 
  rz (u.1 27) (fun v10 => 
  br (v10 ≠ 0) (
    Q u) (
    rd (u.1 26) (fun v11 => 
    br (1000 ≤ v11) (
      Q u) (
      rd (u.1 26) (fun v12 => 
      bd v12 1000 (
      sw (iCp u 52 51 (5 * v12) (17 * v4) 3) (fun u => 
      rd (u.1 26) (fun v15 => 
      ov (v15 + 1) (
      sw (iI u 26 (v15 + 1)) (fun u => 
      Q u))))))))))))))))))))))))))
set_option maxRecDepth 20000 in
set_option maxHeartbeats 4000000 in
theorem f_6_ask_81 (X : yX RX6 p m c cX6_ask 5 s args D ca ad A) (hRf : 1 ≤ R.frames) (hRl : 60 ≤ R.locals) {Q : iST → Prop} (hret : ∀ (u : iST) (H : Heap) (locs : List Loc) (ls : Array Slot) (pc : Nat), Q u → yW D ca A ad s H locs u → decode cX6_ask pc = .ok (.return_, 1) → W p l e R s m args below meth c H locs 0 0 Qf (F0 m pc ls [])) {x1 x2 x3 : Int} (rx1 : inR x1) (rx2 : inR x2) (rx3 : inR x3) (hw : yW D ca A ad s H locs u) (hl : lv_has ls 5 [(0, .ref (ad 0 5)), (1, .int (jI x1)), (2, .int (jI x2)), (3, .int (jI x3))]) (h : v_6_ask_81 Q x1 x2 x3 u) : W p l e R s m args below meth c H locs 0 0 Qf (F0 m 81 ls []) := by
  have hx := X.1.1
  have hb := X.1.2.1
  unfold v_6_ask_81 at h
  refine lv_aload_n hx hb dX6_ask_81 rfl (lv_at hl 0 rfl) ?_
  refine yg_6_13 X hw dX6_ask_82 ?_
  refine lv_aload_n hx hb dX6_ask_85 rfl (lv_at hl 0 rfl) ?_
  refine yg_6_16 X hw dX6_ask_86 h (fun v4 rv4 h => ?_)
  have q5 := h
  have r6 : (0 ≤ v4 ∧ v4 < 60) := ⟨q5.1, by have := q5.2.1; omega⟩
  refine yx_1 X hw rv4 dX6_ask_89 h (fun h => ?_)
  refine lv_astore hx hb dX6_ask_90 hl (by decide) rfl (fun ls hl => ?_)
  have hl : lv_has ls 5 [(4, .ref (ad 7 v4.toNat)), (0, .ref (ad 0 5)), (1, .int (jI x1)), (2, .int (jI x2)), (3, .int (jI x3))] := hl
  refine lv_aload hx hb dX6_ask_92 (lv_at hl 0 rfl) ?_
  refine lv_iconst hx hb dX6_ask_94 (v := jI 0) rfl ?_
  refine lv_iload_n hx hb dX6_ask_95 rfl (lv_at hl 2 rfl) ?_
  refine yft_frames X hw r6 (by decide) rx1 dX6_ask_96 h (fun H locs u hw h => ?_)
  refine lv_aload hx hb dX6_ask_97 (lv_at hl 0 rfl) ?_
  refine lv_iconst hx hb dX6_ask_99 (v := jI 1) rfl ?_
  refine lv_iload_n hx hb dX6_ask_100 rfl (lv_at hl 3 rfl) ?_
  refine yft_frames X hw r6 (by decide) rx2 dX6_ask_101 h (fun H locs u hw h => ?_)
  refine lv_aload hx hb dX6_ask_102 (lv_at hl 0 rfl) ?_
  refine lv_iconst hx hb dX6_ask_104 (v := jI 2) rfl ?_
  refine lv_iload_n hx hb dX6_ask_105 rfl (lv_at hl 4 rfl) ?_
  refine yft_frames X hw r6 (by decide) rx3 dX6_ask_106 h (fun H locs u hw h => ?_)
  refine lv_aload hx hb dX6_ask_107 (lv_at hl 0 rfl) ?_
  refine lv_iconst hx hb dX6_ask_109 (v := jI 3) rfl ?_
  refine lv_iconst hx hb dX6_ask_110 (v := jI 0) rfl ?_
  refine yft_frames X hw r6 (by decide) (by decide) dX6_ask_111 h (fun H locs u hw h => ?_)
  refine lv_aload hx hb dX6_ask_112 (lv_at hl 0 rfl) ?_
  refine lv_iconst hx hb dX6_ask_114 (v := jI 4) rfl ?_
  refine lv_aload_n hx hb dX6_ask_115 rfl (lv_at hl 1 rfl) ?_
  refine yg_6_29 X hw dX6_ask_116 h (fun v7 rv7 h => ?_)
  refine yft_frames X hw r6 (by decide) rv7 dX6_ask_119 h (fun H locs u hw h => ?_)
  refine lv_aload_n hx hb dX6_ask_120 rfl (lv_at hl 1 rfl) ?_
  refine lv_dup hx hb dX6_ask_121 rfl ?_
  refine yg_6_16 X hw dX6_ask_122 h (fun v8 rv8 h => ?_)
  refine lv_iconst hx hb dX6_ask_125 (v := jI 1) rfl ?_
  refine k_iadd hx hb dX6_ask_126 h (fun r9 h => ?_)
  refine yp_6_16 X hw r9 dX6_ask_127 h (fun H locs u hw h => ?_)
  refine lv_aload_n hx hb dX6_ask_130 rfl (lv_at hl 1 rfl) ?_
  refine yg_6_32 X hw dX6_ask_131 h (fun v10 rv10 h => ?_)
  refine k_if_ne hx hb (bz_in rv10) dX6_ask_134 (tgt := 176) rfl h (fun h => ?_) (fun h => ?_)
  · exact hret _ _ _ _ _ h hw dX6_ask_176
  · refine lv_aload_n hx hb dX6_ask_137 rfl (lv_at hl 1 rfl) ?_
    refine yg_6_29 X hw dX6_ask_138 h (fun v11 rv11 h => ?_)
    refine lv_aload_n hx hb dX6_ask_141 rfl (lv_at hl 1 rfl) ?_
    refine yg_6_26 X hw dX6_ask_142 ?_
    refine yxn_2 X hw dX6_ask_145 ?_
    refine k_icmp_ge hx hb rv11 (by decide) dX6_ask_146 (tgt := 176) rfl h (fun h => ?_) (fun h => ?_)
    · exact hret _ _ _ _ _ h hw dX6_ask_176
    · refine lv_aload hx hb dX6_ask_149 (lv_at hl 0 rfl) ?_
      refine lv_iconst hx hb dX6_ask_151 (v := jI 0) rfl ?_
      refine lv_aload_n hx hb dX6_ask_152 rfl (lv_at hl 1 rfl) ?_
      refine yg_6_26 X hw dX6_ask_153 ?_
      refine lv_aload_n hx hb dX6_ask_156 rfl (lv_at hl 1 rfl) ?_
      refine yg_6_29 X hw dX6_ask_157 h (fun v12 rv12 h => ?_)
      have q13 := h
      have r14 : (0 ≤ v12 ∧ v12 < 1000) := ⟨q13.1, by have := q13.2.1; omega⟩
      refine yx_2 X hw rv12 dX6_ask_160 h (fun h => ?_)
      refine lv_iconst hx hb dX6_ask_161 (v := jI 0) rfl ?_
      refine lv_iconst hx hb dX6_ask_162 (v := jI 3) rfl ?_
      refine yCp_notes X hw r6 r14 hl.1 (Nat.le_trans (Nat.le_of_ble_eq_true rfl) hRf) (Nat.le_trans (Nat.le_of_ble_eq_true rfl) hRl) dX6_ask_163 h (fun H locs u hw h => ?_)
      refine lv_aload_n hx hb dX6_ask_166 rfl (lv_at hl 1 rfl) ?_
      refine lv_dup hx hb dX6_ask_167 rfl ?_
      refine yg_6_29 X hw dX6_ask_168 h (fun v15 rv15 h => ?_)
      refine lv_iconst hx hb dX6_ask_171 (v := jI 1) rfl ?_
      refine k_iadd hx hb dX6_ask_172 h (fun r16 h => ?_)
      refine yp_6_29 X hw r16 dX6_ask_173 h (fun H locs u hw h => ?_)
      exact hret _ _ _ _ _ h hw dX6_ask_176

def v_6_ask_44 (Q : iST → Prop) (x1 : Int) (x2 : Int) (x3 : Int) (u : iST) : Prop :=
  rd (u.1 23) (fun v2 => 
  br (v2 < 60) (
    rz (u.1 27) (fun v3 => 
    br (v3 ≠ 0) (
      v_6_ask_81 Q x1 x2 x3 u) (
      v_7_step (fun v17 u => 
      br (v17 = 0) (
        Q u) (
        v_6_ask_81 Q x1 x2 x3 u)) u))) (
    v_7_blame 2 (fun u => 
    Q u) u))
set_option maxRecDepth 20000 in
set_option maxHeartbeats 4000000 in
theorem f_6_ask_44 (X : yX RX6 p m c cX6_ask 5 s args D ca ad A) (hRf : 1 ≤ R.frames) (hRl : 60 ≤ R.locals) {Q : iST → Prop} (hret : ∀ (u : iST) (H : Heap) (locs : List Loc) (ls : Array Slot) (pc : Nat), Q u → yW D ca A ad s H locs u → decode cX6_ask pc = .ok (.return_, 1) → W p l e R s m args below meth c H locs 0 0 Qf (F0 m pc ls [])) {x1 x2 x3 : Int} (rx1 : inR x1) (rx2 : inR x2) (rx3 : inR x3) (hw : yW D ca A ad s H locs u) (hl : lv_has ls 5 [(0, .ref (ad 0 5)), (1, .int (jI x1)), (2, .int (jI x2)), (3, .int (jI x3))]) (h : v_6_ask_44 Q x1 x2 x3 u) : W p l e R s m args below meth c H locs 0 0 Qf (F0 m 44 ls []) := by
  have hx := X.1.1
  have hb := X.1.2.1
  unfold v_6_ask_44 at h
  refine lv_aload_n hx hb dX6_ask_44 rfl (lv_at hl 0 rfl) ?_
  refine yg_6_16 X hw dX6_ask_45 h (fun v2 rv2 h => ?_)
  refine lv_bipush hx hb dX6_ask_48 (v := jI 60) rfl ?_
  refine k_icmp_lt hx hb rv2 (by decide) dX6_ask_50 (tgt := 64) rfl h (fun h => ?_) (fun h => ?_)
  · refine lv_aload_n hx hb dX6_ask_64 rfl (lv_at hl 0 rfl) ?_
    refine yg_6_32 X hw dX6_ask_65 h (fun v3 rv3 h => ?_)
    refine k_if_ne hx hb (bz_in rv3) dX6_ask_68 (tgt := 81) rfl h (fun h => ?_) (fun h => ?_)
    · exact f_6_ask_81 X hRf hRl hret rx1 rx2 rx3 hw hl h
    · refine lv_aload_n hx hb dX6_ask_71 rfl (lv_at hl 0 rfl) ?_
      refine yg_6_39 X hw dX6_ask_72 ?_
      refine ycI (n := 0) (e_7_step h) 7 6 (r := (RX7, TX7, 9)) rfl yG_6_155 yD_7_step X hw rfl yGo_7 (Nat.le_trans (Nat.le_of_ble_eq_true rfl) hRf) (Nat.le_trans (Nat.le_of_ble_eq_true rfl) hRl) rfl hl.1 (Nat.le_of_ble_eq_true rfl) rfl dX6_ask_75 (fun v17 u H locs rv17 h hw => ?_)
      refine k_if_eq hx hb rv17 dX6_ask_78 (tgt := 176) rfl h (fun h => ?_) (fun h => ?_)
      · exact hret _ _ _ _ _ h hw dX6_ask_176
      · exact f_6_ask_81 X hRf hRl hret rx1 rx2 rx3 hw hl h
  · refine lv_aload_n hx hb dX6_ask_53 rfl (lv_at hl 0 rfl) ?_
    refine yg_6_39 X hw dX6_ask_54 ?_
    refine lv_iconst hx hb dX6_ask_57 (v := jI 2) rfl ?_
    refine ycV (n := 1) (e_7_blame (by decide) h) 7 6 (r := (RX7, TX7, 9)) rfl yG_6_152 yD_7_blame X hw rfl yGo_7 (Nat.le_trans (Nat.le_of_ble_eq_true rfl) hRf) (Nat.le_trans (Nat.le_of_ble_eq_true rfl) hRl) rfl hl.1 (Nat.le_of_ble_eq_true rfl) rfl dX6_ask_58 (fun u H locs h hw => ?_)
    refine lv_goto hx hb dX6_ask_61 (tgt := 176) rfl ?_
    exact hret _ _ _ _ _ h hw dX6_ask_176

def v_6_ask (a0 : Int) (a1 : Int) (a2 : Int) (Q : iST → Prop) (u : iST) : Prop :=
  rz (u.1 27) (fun v1 => 
  br (v1 = 0) (
    v_6_ask_44 Q a0 a1 a2 u) (
    rd (u.1 23) (fun v19 => 
    br (v19 ≤ 0) (
      v_6_ask_44 Q a0 a1 a2 u) (
      v_6_recalled a0 a1 a2 (fun v20 u => 
      sw (iI u 24 v20) (fun u => 
      rd (u.1 24) (fun v21 => 
      br (v21 ≠ (-1)) (
        Q u) (
        v_7_blame 4 (fun u => 
        Q u) u)))) u))))
set_option maxRecDepth 20000 in
set_option maxHeartbeats 4000000 in
theorem f_6_ask_s (X : yX RX6 p m c cX6_ask 5 s args D ca ad A) (hRf : 1 ≤ R.frames) (hRl : 60 ≤ R.locals) {Q : iST → Prop} (hret : ∀ (u : iST) (H : Heap) (locs : List Loc) (ls : Array Slot) (pc : Nat), Q u → yW D ca A ad s H locs u → decode cX6_ask pc = .ok (.return_, 1) → W p l e R s m args below meth c H locs 0 0 Qf (F0 m pc ls [])) {a0 a1 a2 : Int} (ra0 : inR a0) (ra1 : inR a1) (ra2 : inR a2) (hw : yW D ca A ad s H locs u) (hl : lv_has ls 5 [(0, .ref (ad 0 5)), (1, .int (jI a0)), (2, .int (jI a1)), (3, .int (jI a2))]) (h : v_6_ask a0 a1 a2 Q u) : W p l e R s m args below meth c H locs 0 0 Qf (F0 m 0 ls []) := by
  have hx := X.1.1
  have hb := X.1.2.1
  unfold v_6_ask at h
  refine lv_aload_n hx hb dX6_ask_0 rfl (lv_at hl 0 rfl) ?_
  refine yg_6_32 X hw dX6_ask_1 h (fun v1 rv1 h => ?_)
  refine k_if_eq hx hb (bz_in rv1) dX6_ask_4 (tgt := 44) rfl h (fun h => ?_) (fun h => ?_)
  · exact f_6_ask_44 X hRf hRl hret ra0 ra1 ra2 hw hl h
  · refine lv_aload_n hx hb dX6_ask_7 rfl (lv_at hl 0 rfl) ?_
    refine yg_6_16 X hw dX6_ask_8 h (fun v19 rv19 h => ?_)
    refine k_if_le hx hb rv19 dX6_ask_11 (tgt := 44) rfl h (fun h => ?_) (fun h => ?_)
    · exact f_6_ask_44 X hRf hRl hret ra0 ra1 ra2 hw hl h
    · refine lv_aload_n hx hb dX6_ask_14 rfl (lv_at hl 0 rfl) ?_
      refine lv_aload_n hx hb dX6_ask_15 rfl (lv_at hl 0 rfl) ?_
      refine lv_iload_n hx hb dX6_ask_16 rfl (lv_at hl 1 rfl) ?_
      refine lv_iload_n hx hb dX6_ask_17 rfl (lv_at hl 2 rfl) ?_
      refine lv_iload_n hx hb dX6_ask_18 rfl (lv_at hl 3 rfl) ?_
      refine ycI (n := 3) (e_6_recalled ra0 ra1 ra2 h) 6 5 (r := (RX6, TX6, 14)) rfl yG_6_148 yD_6_recalled X hw rfl yGo_6 (Nat.le_trans (Nat.le_of_ble_eq_true rfl) hRf) (Nat.le_trans (Nat.le_of_ble_eq_true rfl) hRl) rfl hl.1 (Nat.le_of_ble_eq_true rfl) rfl dX6_ask_19 (fun v20 u H locs rv20 h hw => ?_)
      refine yp_6_20 X hw rv20 dX6_ask_22 h (fun H locs u hw h => ?_)
      refine lv_aload_n hx hb dX6_ask_25 rfl (lv_at hl 0 rfl) ?_
      refine yg_6_20 X hw dX6_ask_26 h (fun v21 rv21 h => ?_)
      refine lv_iconst hx hb dX6_ask_29 (v := jI (-1)) rfl ?_
      refine k_icmp_ne hx hb rv21 (by decide) dX6_ask_30 (tgt := 176) rfl h (fun h => ?_) (fun h => ?_)
      · exact hret _ _ _ _ _ h hw dX6_ask_176
      · refine lv_aload_n hx hb dX6_ask_33 rfl (lv_at hl 0 rfl) ?_
        refine yg_6_39 X hw dX6_ask_34 ?_
        refine lv_iconst hx hb dX6_ask_37 (v := jI 4) rfl ?_
        refine ycV (n := 1) (e_7_blame (by decide) h) 7 6 (r := (RX7, TX7, 9)) rfl yG_6_152 yD_7_blame X hw rfl yGo_7 (Nat.le_trans (Nat.le_of_ble_eq_true rfl) hRf) (Nat.le_trans (Nat.le_of_ble_eq_true rfl) hRl) rfl hl.1 (Nat.le_of_ble_eq_true rfl) rfl dX6_ask_38 (fun u H locs h hw => ?_)
        refine lv_goto hx hb dX6_ask_41 (tgt := 176) rfl ?_
        exact hret _ _ _ _ _ h hw dX6_ask_176

end
theorem e_6_ask {l : Launch} {a0 : Int} {a1 : Int} {a2 : Int} (ra0 : inR a0) (ra1 : inR a1) (ra2 : inR a2) {Q : iST → Prop} {u : iST} (h : v_6_ask a0 a1 a2 Q u) : yMV l yX6_ask (.code yX6_ask cX6_ask 5 none :: wsN) { frames := 1, cells := 0, slots := 0, locals := 60 } (fun ad => [.ref (ad 0 5), .int (jI a0), .int (jI a1), .int (jI a2)]) Q u := yMV_of (own := RX6) rfl (by decide +kernel) (fun _ => Nat.le_of_ble_eq_true rfl) (fun X hRf hRl hret hw hl => f_6_ask_s X hRf hRl hret ra0 ra1 ra2 hw hl h)

/-! ProofHouse$Rewriter.finish -/
theorem dX6_finish_0 : decode cX6_finish 0 = .ok (.aload_n 0, 1) := by decide +kernel
theorem dX6_finish_1 : decode cX6_finish 1 = .ok (.dup, 1) := by decide +kernel
theorem dX6_finish_2 : decode cX6_finish 2 = .ok (.getfield 16, 3) := by decide +kernel
theorem dX6_finish_5 : decode cX6_finish 5 = .ok (.iconst 1, 1) := by decide +kernel
theorem dX6_finish_6 : decode cX6_finish 6 = .ok (.isub, 1) := by decide +kernel
theorem dX6_finish_7 : decode cX6_finish 7 = .ok (.putfield 16, 3) := by decide +kernel
theorem dX6_finish_10 : decode cX6_finish 10 = .ok (.aload_n 0, 1) := by decide +kernel
theorem dX6_finish_11 : decode cX6_finish 11 = .ok (.getfield 13, 3) := by decide +kernel
theorem dX6_finish_14 : decode cX6_finish 14 = .ok (.aload_n 0, 1) := by decide +kernel
theorem dX6_finish_15 : decode cX6_finish 15 = .ok (.getfield 16, 3) := by decide +kernel
theorem dX6_finish_18 : decode cX6_finish 18 = .ok (.aaload, 1) := by decide +kernel
theorem dX6_finish_19 : decode cX6_finish 19 = .ok (.astore_n 2, 1) := by decide +kernel
theorem dX6_finish_20 : decode cX6_finish 20 = .ok (.aload_n 2, 1) := by decide +kernel
theorem dX6_finish_21 : decode cX6_finish 21 = .ok (.iconst 1, 1) := by decide +kernel
theorem dX6_finish_22 : decode cX6_finish 22 = .ok (.iaload, 1) := by decide +kernel
theorem dX6_finish_23 : decode cX6_finish 23 = .ok (.iconst 1, 1) := by decide +kernel
theorem dX6_finish_24 : decode cX6_finish 24 = .ok (.if_icmp .ne 22, 3) := by decide +kernel
theorem dX6_finish_27 : decode cX6_finish 27 = .ok (.aload_n 0, 1) := by decide +kernel
theorem dX6_finish_28 : decode cX6_finish 28 = .ok (.getfield 39, 3) := by decide +kernel
theorem dX6_finish_31 : decode cX6_finish 31 = .ok (.iload_n 1, 1) := by decide +kernel
theorem dX6_finish_32 : decode cX6_finish 32 = .ok (.invokevirtual 165, 3) := by decide +kernel
theorem dX6_finish_35 : decode cX6_finish 35 = .ok (.ifCond .eq 11, 3) := by decide +kernel
theorem dX6_finish_38 : decode cX6_finish 38 = .ok (.iload_n 1, 1) := by decide +kernel
theorem dX6_finish_39 : decode cX6_finish 39 = .ok (.ifCond .eq 7, 3) := by decide +kernel
theorem dX6_finish_42 : decode cX6_finish 42 = .ok (.iconst 1, 1) := by decide +kernel
theorem dX6_finish_43 : decode cX6_finish 43 = .ok (.goto 4, 3) := by decide +kernel
theorem dX6_finish_46 : decode cX6_finish 46 = .ok (.iconst 0, 1) := by decide +kernel
theorem dX6_finish_47 : decode cX6_finish 47 = .ok (.istore_n 3, 1) := by decide +kernel
theorem dX6_finish_48 : decode cX6_finish 48 = .ok (.aload_n 0, 1) := by decide +kernel
theorem dX6_finish_49 : decode cX6_finish 49 = .ok (.iload_n 3, 1) := by decide +kernel
theorem dX6_finish_50 : decode cX6_finish 50 = .ok (.ifCond .eq 7, 3) := by decide +kernel
theorem dX6_finish_53 : decode cX6_finish 53 = .ok (.iconst 1, 1) := by decide +kernel
theorem dX6_finish_54 : decode cX6_finish 54 = .ok (.goto 4, 3) := by decide +kernel
theorem dX6_finish_57 : decode cX6_finish 57 = .ok (.iload_n 1, 1) := by decide +kernel
theorem dX6_finish_58 : decode cX6_finish 58 = .ok (.putfield 20, 3) := by decide +kernel
theorem dX6_finish_61 : decode cX6_finish 61 = .ok (.aload_n 0, 1) := by decide +kernel
theorem dX6_finish_62 : decode cX6_finish 62 = .ok (.getfield 32, 3) := by decide +kernel
theorem dX6_finish_65 : decode cX6_finish 65 = .ok (.ifCond .ne 42, 3) := by decide +kernel
theorem dX6_finish_68 : decode cX6_finish 68 = .ok (.aload_n 2, 1) := by decide +kernel
theorem dX6_finish_69 : decode cX6_finish 69 = .ok (.iconst 4, 1) := by decide +kernel
theorem dX6_finish_70 : decode cX6_finish 70 = .ok (.iaload, 1) := by decide +kernel
theorem dX6_finish_71 : decode cX6_finish 71 = .ok (.aload_n 0, 1) := by decide +kernel
theorem dX6_finish_72 : decode cX6_finish 72 = .ok (.getfield 26, 3) := by decide +kernel
theorem dX6_finish_75 : decode cX6_finish 75 = .ok (.arraylength, 1) := by decide +kernel
theorem dX6_finish_76 : decode cX6_finish 76 = .ok (.if_icmp .ge 31, 3) := by decide +kernel
theorem dX6_finish_79 : decode cX6_finish 79 = .ok (.aload_n 0, 1) := by decide +kernel
theorem dX6_finish_80 : decode cX6_finish 80 = .ok (.getfield 26, 3) := by decide +kernel
theorem dX6_finish_83 : decode cX6_finish 83 = .ok (.aload_n 2, 1) := by decide +kernel
theorem dX6_finish_84 : decode cX6_finish 84 = .ok (.iconst 4, 1) := by decide +kernel
theorem dX6_finish_85 : decode cX6_finish 85 = .ok (.iaload, 1) := by decide +kernel
theorem dX6_finish_86 : decode cX6_finish 86 = .ok (.aaload, 1) := by decide +kernel
theorem dX6_finish_87 : decode cX6_finish 87 = .ok (.iconst 3, 1) := by decide +kernel
theorem dX6_finish_88 : decode cX6_finish 88 = .ok (.aload_n 0, 1) := by decide +kernel
theorem dX6_finish_89 : decode cX6_finish 89 = .ok (.getfield 20, 3) := by decide +kernel
theorem dX6_finish_92 : decode cX6_finish 92 = .ok (.iastore, 1) := by decide +kernel
theorem dX6_finish_93 : decode cX6_finish 93 = .ok (.aload_n 0, 1) := by decide +kernel
theorem dX6_finish_94 : decode cX6_finish 94 = .ok (.getfield 26, 3) := by decide +kernel
theorem dX6_finish_97 : decode cX6_finish 97 = .ok (.aload_n 2, 1) := by decide +kernel
theorem dX6_finish_98 : decode cX6_finish 98 = .ok (.iconst 4, 1) := by decide +kernel
theorem dX6_finish_99 : decode cX6_finish 99 = .ok (.iaload, 1) := by decide +kernel
theorem dX6_finish_100 : decode cX6_finish 100 = .ok (.aaload, 1) := by decide +kernel
theorem dX6_finish_101 : decode cX6_finish 101 = .ok (.iconst 4, 1) := by decide +kernel
theorem dX6_finish_102 : decode cX6_finish 102 = .ok (.aload_n 0, 1) := by decide +kernel
theorem dX6_finish_103 : decode cX6_finish 103 = .ok (.getfield 29, 3) := by decide +kernel
theorem dX6_finish_106 : decode cX6_finish 106 = .ok (.iastore, 1) := by decide +kernel
theorem dX6_finish_107 : decode cX6_finish 107 = .ok (.return_, 1) := by decide +kernel

section
variable {p : Program} {l : Launch} {e : Env} {R : Room} {s : State} {m : MethodId} {args : Array Value} {below : List Frame} {meth : Method} {c : Code} {H : Heap} {locs : List Loc} {Qf : State → Prop}
variable {ls : Array Slot} {D : va_G} {ca : Nat → ClassId} {A : Nat → Prop} {ad : Nat → Nat → Nat} {u : iST}
def v_6_finish_58 (Q : iST → Prop) (x2 : Int) (y1 : Int) (u : iST) : Prop :=
  sw (iI u 24 y1) (fun u => 
  rz (u.1 27) (fun v7 => 
  br (v7 ≠ 0) (
    Q u) (
    bd 4 17 (rd (u.2.1 51 (17 * x2 + 4)) (fun v8 => 
    br (1000 ≤ v8) (
      Q u) (
      bd 4 17 (rd (u.2.1 51 (17 * x2 + 4)) (fun v9 => 
      bd v9 1000 (
      rd (u.1 24) (fun v12 => 
      bd 3 5 (sw (iA u 52 (5 * v9 + 3) v12) (fun u => 
      bd 4 17 (rd (u.2.1 51 (17 * x2 + 4)) (fun v13 => 
      bd v13 1000 (
      rd (u.1 26) (fun v16 => 
      bd 4 5 (sw (iA u 52 (5 * v13 + 4) v16) (fun u => 
      Q u))))))))))))))))))
set_option maxRecDepth 20000 in
set_option maxHeartbeats 4000000 in
theorem f_6_finish_58 (X : yX RX6 p m c cX6_finish 4 s args D ca ad A) (hRf : 1 ≤ R.frames) (hRl : 23 ≤ R.locals) {Q : iST → Prop} (hret : ∀ (u : iST) (H : Heap) (locs : List Loc) (ls : Array Slot) (pc : Nat), Q u → yW D ca A ad s H locs u → decode cX6_finish pc = .ok (.return_, 1) → W p l e R s m args below meth c H locs 0 0 Qf (F0 m pc ls [])) {x2 y1 : Int} (rx2 : (0 ≤ x2 ∧ x2 < 60)) (ry1 : inR y1) (hw : yW D ca A ad s H locs u) (hl : lv_has ls 4 [(0, .ref (ad 0 5)), (2, .ref (ad 7 x2.toNat))]) (h : v_6_finish_58 Q x2 y1 u) : W p l e R s m args below meth c H locs 0 0 Qf (F0 m 58 ls [.int (jI y1), .ref (ad 0 5)]) := by
  have hx := X.1.1
  have hb := X.1.2.1
  unfold v_6_finish_58 at h
  refine yp_6_20 X hw ry1 dX6_finish_58 h (fun H locs u hw h => ?_)
  refine lv_aload_n hx hb dX6_finish_61 rfl (lv_at hl 0 rfl) ?_
  refine yg_6_32 X hw dX6_finish_62 h (fun v7 rv7 h => ?_)
  refine k_if_ne hx hb (bz_in rv7) dX6_finish_65 (tgt := 107) rfl h (fun h => ?_) (fun h => ?_)
  · exact hret _ _ _ _ _ h hw dX6_finish_107
  · refine lv_aload_n hx hb dX6_finish_68 rfl (lv_at hl 1 rfl) ?_
    refine lv_iconst hx hb dX6_finish_69 (v := jI 4) rfl ?_
    refine yfl_frames X hw rx2 (by decide) dX6_finish_70 h (fun v8 rv8 h => ?_)
    refine lv_aload_n hx hb dX6_finish_71 rfl (lv_at hl 0 rfl) ?_
    refine yg_6_26 X hw dX6_finish_72 ?_
    refine yxn_2 X hw dX6_finish_75 ?_
    refine k_icmp_ge hx hb rv8 (by decide) dX6_finish_76 (tgt := 107) rfl h (fun h => ?_) (fun h => ?_)
    · exact hret _ _ _ _ _ h hw dX6_finish_107
    · refine lv_aload_n hx hb dX6_finish_79 rfl (lv_at hl 0 rfl) ?_
      refine yg_6_26 X hw dX6_finish_80 ?_
      refine lv_aload_n hx hb dX6_finish_83 rfl (lv_at hl 1 rfl) ?_
      refine lv_iconst hx hb dX6_finish_84 (v := jI 4) rfl ?_
      refine yfl_frames X hw rx2 (by decide) dX6_finish_85 h (fun v9 rv9 h => ?_)
      have q10 := h
      have r11 : (0 ≤ v9 ∧ v9 < 1000) := ⟨q10.1, by have := q10.2.1; omega⟩
      refine yx_2 X hw rv9 dX6_finish_86 h (fun h => ?_)
      refine lv_iconst hx hb dX6_finish_87 (v := jI 3) rfl ?_
      refine lv_aload_n hx hb dX6_finish_88 rfl (lv_at hl 0 rfl) ?_
      refine yg_6_20 X hw dX6_finish_89 h (fun v12 rv12 h => ?_)
      refine yft_notes X hw r11 (by decide) rv12 dX6_finish_92 h (fun H locs u hw h => ?_)
      refine lv_aload_n hx hb dX6_finish_93 rfl (lv_at hl 0 rfl) ?_
      refine yg_6_26 X hw dX6_finish_94 ?_
      refine lv_aload_n hx hb dX6_finish_97 rfl (lv_at hl 1 rfl) ?_
      refine lv_iconst hx hb dX6_finish_98 (v := jI 4) rfl ?_
      refine yfl_frames X hw rx2 (by decide) dX6_finish_99 h (fun v13 rv13 h => ?_)
      have q14 := h
      have r15 : (0 ≤ v13 ∧ v13 < 1000) := ⟨q14.1, by have := q14.2.1; omega⟩
      refine yx_2 X hw rv13 dX6_finish_100 h (fun h => ?_)
      refine lv_iconst hx hb dX6_finish_101 (v := jI 4) rfl ?_
      refine lv_aload_n hx hb dX6_finish_102 rfl (lv_at hl 0 rfl) ?_
      refine yg_6_29 X hw dX6_finish_103 h (fun v16 rv16 h => ?_)
      refine yft_notes X hw r15 (by decide) rv16 dX6_finish_106 h (fun H locs u hw h => ?_)
      exact hret _ _ _ _ _ h hw dX6_finish_107

def v_6_finish_47 (Q : iST → Prop) (x1 : Int) (x2 : Int) (y0 : Int) (u : iST) : Prop :=
  br (y0 = 0) (
    v_6_finish_58 Q x2 x1 u) (
    v_6_finish_58 Q x2 1 u)
set_option maxRecDepth 20000 in
set_option maxHeartbeats 4000000 in
theorem f_6_finish_47 (X : yX RX6 p m c cX6_finish 4 s args D ca ad A) (hRf : 1 ≤ R.frames) (hRl : 23 ≤ R.locals) {Q : iST → Prop} (hret : ∀ (u : iST) (H : Heap) (locs : List Loc) (ls : Array Slot) (pc : Nat), Q u → yW D ca A ad s H locs u → decode cX6_finish pc = .ok (.return_, 1) → W p l e R s m args below meth c H locs 0 0 Qf (F0 m pc ls [])) {x1 x2 y0 : Int} (rx1 : inR x1) (rx2 : (0 ≤ x2 ∧ x2 < 60)) (ry0 : inR y0) (hw : yW D ca A ad s H locs u) (hl : lv_has ls 4 [(0, .ref (ad 0 5)), (1, .int (jI x1)), (2, .ref (ad 7 x2.toNat))]) (h : v_6_finish_47 Q x1 x2 y0 u) : W p l e R s m args below meth c H locs 0 0 Qf (F0 m 47 ls [.int (jI y0)]) := by
  have hx := X.1.1
  have hb := X.1.2.1
  unfold v_6_finish_47 at h
  refine lv_istore_n hx hb dX6_finish_47 rfl hl (by decide) rfl (fun ls hl => ?_)
  have hl : lv_has ls 4 [(3, .int (jI y0)), (0, .ref (ad 0 5)), (1, .int (jI x1)), (2, .ref (ad 7 x2.toNat))] := hl
  refine lv_aload_n hx hb dX6_finish_48 rfl (lv_at hl 1 rfl) ?_
  refine lv_iload_n hx hb dX6_finish_49 rfl (lv_at hl 0 rfl) ?_
  refine k_if_eq hx hb ry0 dX6_finish_50 (tgt := 57) rfl h (fun h => ?_) (fun h => ?_)
  · refine lv_iload_n hx hb dX6_finish_57 rfl (lv_at hl 2 rfl) ?_
    exact f_6_finish_58 X hRf hRl hret rx2 rx1 hw (lv_sub hl [1, 3] rfl) h
  · refine lv_iconst hx hb dX6_finish_53 (v := jI 1) rfl ?_
    refine lv_goto hx hb dX6_finish_54 (tgt := 58) rfl ?_
    exact f_6_finish_58 X hRf hRl hret rx2 (by decide) hw (lv_sub hl [1, 3] rfl) h

def v_6_finish_46 (Q : iST → Prop) (x1 : Int) (x2 : Int) (u : iST) : Prop :=
  v_6_finish_47 Q x1 x2 0 u
set_option maxRecDepth 20000 in
set_option maxHeartbeats 4000000 in
theorem f_6_finish_46 (X : yX RX6 p m c cX6_finish 4 s args D ca ad A) (hRf : 1 ≤ R.frames) (hRl : 23 ≤ R.locals) {Q : iST → Prop} (hret : ∀ (u : iST) (H : Heap) (locs : List Loc) (ls : Array Slot) (pc : Nat), Q u → yW D ca A ad s H locs u → decode cX6_finish pc = .ok (.return_, 1) → W p l e R s m args below meth c H locs 0 0 Qf (F0 m pc ls [])) {x1 x2 : Int} (rx1 : inR x1) (rx2 : (0 ≤ x2 ∧ x2 < 60)) (hw : yW D ca A ad s H locs u) (hl : lv_has ls 4 [(0, .ref (ad 0 5)), (1, .int (jI x1)), (2, .ref (ad 7 x2.toNat))]) (h : v_6_finish_46 Q x1 x2 u) : W p l e R s m args below meth c H locs 0 0 Qf (F0 m 46 ls []) := by
  have hx := X.1.1
  have hb := X.1.2.1
  unfold v_6_finish_46 at h
  refine lv_iconst hx hb dX6_finish_46 (v := jI 0) rfl ?_
  exact f_6_finish_47 X hRf hRl hret rx1 rx2 (by decide) hw hl h

def v_6_finish (a0 : Int) (Q : iST → Prop) (u : iST) : Prop :=
  rd (u.1 23) (fun v1 => 
  ov (v1 - 1) (
  sw (iI u 23 (v1 - 1)) (fun u => 
  rd (u.1 23) (fun v3 => 
  bd v3 60 (
  bd 1 17 (rd (u.2.1 51 (17 * v3 + 1)) (fun v6 => 
  br (v6 ≠ 1) (
    v_6_finish_46 Q a0 v3 u) (
    v_7_isConstant a0 (fun v17 u => 
    br (v17 = 0) (
      v_6_finish_46 Q a0 v3 u) (
      br (a0 = 0) (
        v_6_finish_46 Q a0 v3 u) (
        v_6_finish_47 Q a0 v3 1 u))) u))))))))
set_option maxRecDepth 20000 in
set_option maxHeartbeats 4000000 in
theorem f_6_finish_s (X : yX RX6 p m c cX6_finish 4 s args D ca ad A) (hRf : 1 ≤ R.frames) (hRl : 23 ≤ R.locals) {Q : iST → Prop} (hret : ∀ (u : iST) (H : Heap) (locs : List Loc) (ls : Array Slot) (pc : Nat), Q u → yW D ca A ad s H locs u → decode cX6_finish pc = .ok (.return_, 1) → W p l e R s m args below meth c H locs 0 0 Qf (F0 m pc ls [])) {a0 : Int} (ra0 : inR a0) (hw : yW D ca A ad s H locs u) (hl : lv_has ls 4 [(0, .ref (ad 0 5)), (1, .int (jI a0))]) (h : v_6_finish a0 Q u) : W p l e R s m args below meth c H locs 0 0 Qf (F0 m 0 ls []) := by
  have hx := X.1.1
  have hb := X.1.2.1
  unfold v_6_finish at h
  refine lv_aload_n hx hb dX6_finish_0 rfl (lv_at hl 0 rfl) ?_
  refine lv_dup hx hb dX6_finish_1 rfl ?_
  refine yg_6_16 X hw dX6_finish_2 h (fun v1 rv1 h => ?_)
  refine lv_iconst hx hb dX6_finish_5 (v := jI 1) rfl ?_
  refine k_isub hx hb dX6_finish_6 h (fun r2 h => ?_)
  refine yp_6_16 X hw r2 dX6_finish_7 h (fun H locs u hw h => ?_)
  refine lv_aload_n hx hb dX6_finish_10 rfl (lv_at hl 0 rfl) ?_
  refine yg_6_13 X hw dX6_finish_11 ?_
  refine lv_aload_n hx hb dX6_finish_14 rfl (lv_at hl 0 rfl) ?_
  refine yg_6_16 X hw dX6_finish_15 h (fun v3 rv3 h => ?_)
  have q4 := h
  have r5 : (0 ≤ v3 ∧ v3 < 60) := ⟨q4.1, by have := q4.2.1; omega⟩
  refine yx_1 X hw rv3 dX6_finish_18 h (fun h => ?_)
  refine lv_astore_n hx hb dX6_finish_19 rfl hl (by decide) rfl (fun ls hl => ?_)
  have hl : lv_has ls 4 [(2, .ref (ad 7 v3.toNat)), (0, .ref (ad 0 5)), (1, .int (jI a0))] := hl
  refine lv_aload_n hx hb dX6_finish_20 rfl (lv_at hl 0 rfl) ?_
  refine lv_iconst hx hb dX6_finish_21 (v := jI 1) rfl ?_
  refine yfl_frames X hw r5 (by decide) dX6_finish_22 h (fun v6 rv6 h => ?_)
  refine lv_iconst hx hb dX6_finish_23 (v := jI 1) rfl ?_
  refine k_icmp_ne hx hb rv6 (by decide) dX6_finish_24 (tgt := 46) rfl h (fun h => ?_) (fun h => ?_)
  · exact f_6_finish_46 X hRf hRl hret ra0 r5 hw (lv_sub hl [1, 2, 0] rfl) h
  · refine lv_aload_n hx hb dX6_finish_27 rfl (lv_at hl 1 rfl) ?_
    refine yg_6_39 X hw dX6_finish_28 ?_
    refine lv_iload_n hx hb dX6_finish_31 rfl (lv_at hl 2 rfl) ?_
    refine ycI (n := 1) (e_7_isConstant ra0 h) 7 6 (r := (RX7, TX7, 9)) rfl yG_6_165 yD_7_isConstant X hw rfl yGo_7 (Nat.le_trans (Nat.le_of_ble_eq_true rfl) hRf) (Nat.le_trans (Nat.le_of_ble_eq_true rfl) hRl) rfl hl.1 (Nat.le_of_ble_eq_true rfl) rfl dX6_finish_32 (fun v17 u H locs rv17 h hw => ?_)
    refine k_if_eq hx hb rv17 dX6_finish_35 (tgt := 46) rfl h (fun h => ?_) (fun h => ?_)
    · exact f_6_finish_46 X hRf hRl hret ra0 r5 hw (lv_sub hl [1, 2, 0] rfl) h
    · refine lv_iload_n hx hb dX6_finish_38 rfl (lv_at hl 2 rfl) ?_
      refine k_if_eq hx hb ra0 dX6_finish_39 (tgt := 46) rfl h (fun h => ?_) (fun h => ?_)
      · exact f_6_finish_46 X hRf hRl hret ra0 r5 hw (lv_sub hl [1, 2, 0] rfl) h
      · refine lv_iconst hx hb dX6_finish_42 (v := jI 1) rfl ?_
        refine lv_goto hx hb dX6_finish_43 (tgt := 47) rfl ?_
        exact f_6_finish_47 X hRf hRl hret ra0 r5 (by decide) hw (lv_sub hl [1, 2, 0] rfl) h

end
theorem e_6_finish {l : Launch} {a0 : Int} (ra0 : inR a0) {Q : iST → Prop} {u : iST} (h : v_6_finish a0 Q u) : yMV l yX6_finish (.code yX6_finish cX6_finish 4 none :: wsN) { frames := 1, cells := 0, slots := 0, locals := 23 } (fun ad => [.ref (ad 0 5), .int (jI a0)]) Q u := yMV_of (own := RX6) rfl (by decide +kernel) (fun _ => Nat.le_of_ble_eq_true rfl) (fun X hRf hRl hret hw hl => f_6_finish_s X hRf hRl hret ra0 hw hl h)

/-! ProofHouse$Terms.isBoolean -/
theorem dX10_isBoolean_0 : decode cX10_isBoolean 0 = .ok (.aload_n 0, 1) := by decide +kernel
theorem dX10_isBoolean_1 : decode cX10_isBoolean 1 = .ok (.getfield 55, 3) := by decide +kernel
theorem dX10_isBoolean_4 : decode cX10_isBoolean 4 = .ok (.iload_n 1, 1) := by decide +kernel
theorem dX10_isBoolean_5 : decode cX10_isBoolean 5 = .ok (.invokevirtual 103, 3) := by decide +kernel
theorem dX10_isBoolean_8 : decode cX10_isBoolean 8 = .ok (.ifCond .eq 14, 3) := by decide +kernel
theorem dX10_isBoolean_11 : decode cX10_isBoolean 11 = .ok (.aload_n 0, 1) := by decide +kernel
theorem dX10_isBoolean_12 : decode cX10_isBoolean 12 = .ok (.getfield 55, 3) := by decide +kernel
theorem dX10_isBoolean_15 : decode cX10_isBoolean 15 = .ok (.iload_n 1, 1) := by decide +kernel
theorem dX10_isBoolean_16 : decode cX10_isBoolean 16 = .ok (.invokevirtual 72, 3) := by decide +kernel
theorem dX10_isBoolean_19 : decode cX10_isBoolean 19 = .ok (.goto 4, 3) := by decide +kernel
theorem dX10_isBoolean_22 : decode cX10_isBoolean 22 = .ok (.iconst (-1), 1) := by decide +kernel
theorem dX10_isBoolean_23 : decode cX10_isBoolean 23 = .ok (.tableswitch 67 4 16 #[65, 67, 65, 67, 67, 65, 65, 67, 67, 65, 65, 67, 65], 65) := by decide +kernel
theorem dX10_isBoolean_88 : decode cX10_isBoolean 88 = .ok (.iconst 1, 1) := by decide +kernel
theorem dX10_isBoolean_89 : decode cX10_isBoolean 89 = .ok (.ireturn, 1) := by decide +kernel
theorem dX10_isBoolean_90 : decode cX10_isBoolean 90 = .ok (.iload_n 1, 1) := by decide +kernel
theorem dX10_isBoolean_91 : decode cX10_isBoolean 91 = .ok (.ifCond .eq 8, 3) := by decide +kernel
theorem dX10_isBoolean_94 : decode cX10_isBoolean 94 = .ok (.iload_n 1, 1) := by decide +kernel
theorem dX10_isBoolean_95 : decode cX10_isBoolean 95 = .ok (.iconst 1, 1) := by decide +kernel
theorem dX10_isBoolean_96 : decode cX10_isBoolean 96 = .ok (.if_icmp .ne 7, 3) := by decide +kernel
theorem dX10_isBoolean_99 : decode cX10_isBoolean 99 = .ok (.iconst 1, 1) := by decide +kernel
theorem dX10_isBoolean_100 : decode cX10_isBoolean 100 = .ok (.goto 4, 3) := by decide +kernel
theorem dX10_isBoolean_103 : decode cX10_isBoolean 103 = .ok (.iconst 0, 1) := by decide +kernel
theorem dX10_isBoolean_104 : decode cX10_isBoolean 104 = .ok (.ireturn, 1) := by decide +kernel

section
variable {p : Program} {l : Launch} {e : Env} {R : Room} {s : State} {m : MethodId} {args : Array Value} {below : List Frame} {meth : Method} {c : Code} {H : Heap} {locs : List Loc} {Qf : State → Prop}
variable {ls : Array Slot} {D : va_G} {ca : Nat → ClassId} {A : Nat → Prop} {ad : Nat → Nat → Nat} {u : iST}
def v_10_isBoolean_23 (Q : Int → iST → Prop) (x1 : Int) (y0 : Int) (u : iST) : Prop :=
  br (y0 = 4) (
    zt 1 (Q 1 u)) (
  br (y0 = 5) (
    br (x1 = 0) (
      zt 1 (Q 1 u)) (
      br (x1 ≠ 1) (
        zt 0 (Q 0 u)) (
        zt 1 (Q 1 u)))) (
  br (y0 = 6) (
    zt 1 (Q 1 u)) (
  br (y0 = 7) (
    br (x1 = 0) (
      zt 1 (Q 1 u)) (
      br (x1 ≠ 1) (
        zt 0 (Q 0 u)) (
        zt 1 (Q 1 u)))) (
  br (y0 = 8) (
    br (x1 = 0) (
      zt 1 (Q 1 u)) (
      br (x1 ≠ 1) (
        zt 0 (Q 0 u)) (
        zt 1 (Q 1 u)))) (
  br (y0 = 9) (
    zt 1 (Q 1 u)) (
  br (y0 = 10) (
    zt 1 (Q 1 u)) (
  br (y0 = 11) (
    br (x1 = 0) (
      zt 1 (Q 1 u)) (
      br (x1 ≠ 1) (
        zt 0 (Q 0 u)) (
        zt 1 (Q 1 u)))) (
  br (y0 = 12) (
    br (x1 = 0) (
      zt 1 (Q 1 u)) (
      br (x1 ≠ 1) (
        zt 0 (Q 0 u)) (
        zt 1 (Q 1 u)))) (
  br (y0 = 13) (
    zt 1 (Q 1 u)) (
  br (y0 = 14) (
    zt 1 (Q 1 u)) (
  br (y0 = 15) (
    br (x1 = 0) (
      zt 1 (Q 1 u)) (
      br (x1 ≠ 1) (
        zt 0 (Q 0 u)) (
        zt 1 (Q 1 u)))) (
  br (y0 = 16) (
    zt 1 (Q 1 u)) (
  br (x1 = 0) (
    zt 1 (Q 1 u)) (
    br (x1 ≠ 1) (
      zt 0 (Q 0 u)) (
      zt 1 (Q 1 u))))))))))))))))
set_option maxRecDepth 20000 in
set_option maxHeartbeats 4000000 in
theorem f_10_isBoolean_23 (X : yX RX10 p m c cX10_isBoolean 2 s args D ca ad A) (hRf : 1 ≤ R.frames) (hRl : 21 ≤ R.locals) {Q : Int → iST → Prop} (hret : ∀ (v : Int) (u : iST) (H : Heap) (locs : List Loc) (ls : Array Slot) (pc : Nat), bz v → Q v u → yW D ca A ad s H locs u → decode cX10_isBoolean pc = .ok (.ireturn, 1) → W p l e R s m args below meth c H locs 0 0 Qf (F0 m pc ls [.int (jI v)])) {x1 y0 : Int} (rx1 : inR x1) (ry0 : inR y0) (hw : yW D ca A ad s H locs u) (hl : lv_has ls 2 [(0, .ref (ad 0 8)), (1, .int (jI x1))]) (h : v_10_isBoolean_23 Q x1 y0 u) : W p l e R s m args below meth c H locs 0 0 Qf (F0 m 23 ls [.int (jI y0)]) := by
  have hx := X.1.1
  have hb := X.1.2.1
  unfold v_10_isBoolean_23 at h
  refine br_sp h (fun ek h => ?_) (fun n2 h => ?_)
  · refine k_tabIn (tgt := 88) (off := 65) hx hb dX10_isBoolean_23 ek (by decide) (by decide) rfl rfl ?_
    refine lv_iconst hx hb dX10_isBoolean_88 (v := jI 1) rfl ?_
    exact hret _ _ _ _ _ _ h.1 h.2 hw dX10_isBoolean_89
  refine br_sp h (fun ek h => ?_) (fun n3 h => ?_)
  · refine k_tabIn (tgt := 90) (off := 67) hx hb dX10_isBoolean_23 ek (by decide) (by decide) rfl rfl ?_
    refine lv_iload_n hx hb dX10_isBoolean_90 rfl (lv_at hl 1 rfl) ?_
    refine k_if_eq hx hb rx1 dX10_isBoolean_91 (tgt := 99) rfl h (fun h => ?_) (fun h => ?_)
    · refine lv_iconst hx hb dX10_isBoolean_99 (v := jI 1) rfl ?_
      refine lv_goto hx hb dX10_isBoolean_100 (tgt := 104) rfl ?_
      exact hret _ _ _ _ _ _ h.1 h.2 hw dX10_isBoolean_104
    · refine lv_iload_n hx hb dX10_isBoolean_94 rfl (lv_at hl 1 rfl) ?_
      refine lv_iconst hx hb dX10_isBoolean_95 (v := jI 1) rfl ?_
      refine k_icmp_ne hx hb rx1 (by decide) dX10_isBoolean_96 (tgt := 103) rfl h (fun h => ?_) (fun h => ?_)
      · refine lv_iconst hx hb dX10_isBoolean_103 (v := jI 0) rfl ?_
        exact hret _ _ _ _ _ _ h.1 h.2 hw dX10_isBoolean_104
      · refine lv_iconst hx hb dX10_isBoolean_99 (v := jI 1) rfl ?_
        refine lv_goto hx hb dX10_isBoolean_100 (tgt := 104) rfl ?_
        exact hret _ _ _ _ _ _ h.1 h.2 hw dX10_isBoolean_104
  refine br_sp h (fun ek h => ?_) (fun n4 h => ?_)
  · refine k_tabIn (tgt := 88) (off := 65) hx hb dX10_isBoolean_23 ek (by decide) (by decide) rfl rfl ?_
    refine lv_iconst hx hb dX10_isBoolean_88 (v := jI 1) rfl ?_
    exact hret _ _ _ _ _ _ h.1 h.2 hw dX10_isBoolean_89
  refine br_sp h (fun ek h => ?_) (fun n5 h => ?_)
  · refine k_tabIn (tgt := 90) (off := 67) hx hb dX10_isBoolean_23 ek (by decide) (by decide) rfl rfl ?_
    refine lv_iload_n hx hb dX10_isBoolean_90 rfl (lv_at hl 1 rfl) ?_
    refine k_if_eq hx hb rx1 dX10_isBoolean_91 (tgt := 99) rfl h (fun h => ?_) (fun h => ?_)
    · refine lv_iconst hx hb dX10_isBoolean_99 (v := jI 1) rfl ?_
      refine lv_goto hx hb dX10_isBoolean_100 (tgt := 104) rfl ?_
      exact hret _ _ _ _ _ _ h.1 h.2 hw dX10_isBoolean_104
    · refine lv_iload_n hx hb dX10_isBoolean_94 rfl (lv_at hl 1 rfl) ?_
      refine lv_iconst hx hb dX10_isBoolean_95 (v := jI 1) rfl ?_
      refine k_icmp_ne hx hb rx1 (by decide) dX10_isBoolean_96 (tgt := 103) rfl h (fun h => ?_) (fun h => ?_)
      · refine lv_iconst hx hb dX10_isBoolean_103 (v := jI 0) rfl ?_
        exact hret _ _ _ _ _ _ h.1 h.2 hw dX10_isBoolean_104
      · refine lv_iconst hx hb dX10_isBoolean_99 (v := jI 1) rfl ?_
        refine lv_goto hx hb dX10_isBoolean_100 (tgt := 104) rfl ?_
        exact hret _ _ _ _ _ _ h.1 h.2 hw dX10_isBoolean_104
  refine br_sp h (fun ek h => ?_) (fun n6 h => ?_)
  · refine k_tabIn (tgt := 90) (off := 67) hx hb dX10_isBoolean_23 ek (by decide) (by decide) rfl rfl ?_
    refine lv_iload_n hx hb dX10_isBoolean_90 rfl (lv_at hl 1 rfl) ?_
    refine k_if_eq hx hb rx1 dX10_isBoolean_91 (tgt := 99) rfl h (fun h => ?_) (fun h => ?_)
    · refine lv_iconst hx hb dX10_isBoolean_99 (v := jI 1) rfl ?_
      refine lv_goto hx hb dX10_isBoolean_100 (tgt := 104) rfl ?_
      exact hret _ _ _ _ _ _ h.1 h.2 hw dX10_isBoolean_104
    · refine lv_iload_n hx hb dX10_isBoolean_94 rfl (lv_at hl 1 rfl) ?_
      refine lv_iconst hx hb dX10_isBoolean_95 (v := jI 1) rfl ?_
      refine k_icmp_ne hx hb rx1 (by decide) dX10_isBoolean_96 (tgt := 103) rfl h (fun h => ?_) (fun h => ?_)
      · refine lv_iconst hx hb dX10_isBoolean_103 (v := jI 0) rfl ?_
        exact hret _ _ _ _ _ _ h.1 h.2 hw dX10_isBoolean_104
      · refine lv_iconst hx hb dX10_isBoolean_99 (v := jI 1) rfl ?_
        refine lv_goto hx hb dX10_isBoolean_100 (tgt := 104) rfl ?_
        exact hret _ _ _ _ _ _ h.1 h.2 hw dX10_isBoolean_104
  refine br_sp h (fun ek h => ?_) (fun n7 h => ?_)
  · refine k_tabIn (tgt := 88) (off := 65) hx hb dX10_isBoolean_23 ek (by decide) (by decide) rfl rfl ?_
    refine lv_iconst hx hb dX10_isBoolean_88 (v := jI 1) rfl ?_
    exact hret _ _ _ _ _ _ h.1 h.2 hw dX10_isBoolean_89
  refine br_sp h (fun ek h => ?_) (fun n8 h => ?_)
  · refine k_tabIn (tgt := 88) (off := 65) hx hb dX10_isBoolean_23 ek (by decide) (by decide) rfl rfl ?_
    refine lv_iconst hx hb dX10_isBoolean_88 (v := jI 1) rfl ?_
    exact hret _ _ _ _ _ _ h.1 h.2 hw dX10_isBoolean_89
  refine br_sp h (fun ek h => ?_) (fun n9 h => ?_)
  · refine k_tabIn (tgt := 90) (off := 67) hx hb dX10_isBoolean_23 ek (by decide) (by decide) rfl rfl ?_
    refine lv_iload_n hx hb dX10_isBoolean_90 rfl (lv_at hl 1 rfl) ?_
    refine k_if_eq hx hb rx1 dX10_isBoolean_91 (tgt := 99) rfl h (fun h => ?_) (fun h => ?_)
    · refine lv_iconst hx hb dX10_isBoolean_99 (v := jI 1) rfl ?_
      refine lv_goto hx hb dX10_isBoolean_100 (tgt := 104) rfl ?_
      exact hret _ _ _ _ _ _ h.1 h.2 hw dX10_isBoolean_104
    · refine lv_iload_n hx hb dX10_isBoolean_94 rfl (lv_at hl 1 rfl) ?_
      refine lv_iconst hx hb dX10_isBoolean_95 (v := jI 1) rfl ?_
      refine k_icmp_ne hx hb rx1 (by decide) dX10_isBoolean_96 (tgt := 103) rfl h (fun h => ?_) (fun h => ?_)
      · refine lv_iconst hx hb dX10_isBoolean_103 (v := jI 0) rfl ?_
        exact hret _ _ _ _ _ _ h.1 h.2 hw dX10_isBoolean_104
      · refine lv_iconst hx hb dX10_isBoolean_99 (v := jI 1) rfl ?_
        refine lv_goto hx hb dX10_isBoolean_100 (tgt := 104) rfl ?_
        exact hret _ _ _ _ _ _ h.1 h.2 hw dX10_isBoolean_104
  refine br_sp h (fun ek h => ?_) (fun n10 h => ?_)
  · refine k_tabIn (tgt := 90) (off := 67) hx hb dX10_isBoolean_23 ek (by decide) (by decide) rfl rfl ?_
    refine lv_iload_n hx hb dX10_isBoolean_90 rfl (lv_at hl 1 rfl) ?_
    refine k_if_eq hx hb rx1 dX10_isBoolean_91 (tgt := 99) rfl h (fun h => ?_) (fun h => ?_)
    · refine lv_iconst hx hb dX10_isBoolean_99 (v := jI 1) rfl ?_
      refine lv_goto hx hb dX10_isBoolean_100 (tgt := 104) rfl ?_
      exact hret _ _ _ _ _ _ h.1 h.2 hw dX10_isBoolean_104
    · refine lv_iload_n hx hb dX10_isBoolean_94 rfl (lv_at hl 1 rfl) ?_
      refine lv_iconst hx hb dX10_isBoolean_95 (v := jI 1) rfl ?_
      refine k_icmp_ne hx hb rx1 (by decide) dX10_isBoolean_96 (tgt := 103) rfl h (fun h => ?_) (fun h => ?_)
      · refine lv_iconst hx hb dX10_isBoolean_103 (v := jI 0) rfl ?_
        exact hret _ _ _ _ _ _ h.1 h.2 hw dX10_isBoolean_104
      · refine lv_iconst hx hb dX10_isBoolean_99 (v := jI 1) rfl ?_
        refine lv_goto hx hb dX10_isBoolean_100 (tgt := 104) rfl ?_
        exact hret _ _ _ _ _ _ h.1 h.2 hw dX10_isBoolean_104
  refine br_sp h (fun ek h => ?_) (fun n11 h => ?_)
  · refine k_tabIn (tgt := 88) (off := 65) hx hb dX10_isBoolean_23 ek (by decide) (by decide) rfl rfl ?_
    refine lv_iconst hx hb dX10_isBoolean_88 (v := jI 1) rfl ?_
    exact hret _ _ _ _ _ _ h.1 h.2 hw dX10_isBoolean_89
  refine br_sp h (fun ek h => ?_) (fun n12 h => ?_)
  · refine k_tabIn (tgt := 88) (off := 65) hx hb dX10_isBoolean_23 ek (by decide) (by decide) rfl rfl ?_
    refine lv_iconst hx hb dX10_isBoolean_88 (v := jI 1) rfl ?_
    exact hret _ _ _ _ _ _ h.1 h.2 hw dX10_isBoolean_89
  refine br_sp h (fun ek h => ?_) (fun n13 h => ?_)
  · refine k_tabIn (tgt := 90) (off := 67) hx hb dX10_isBoolean_23 ek (by decide) (by decide) rfl rfl ?_
    refine lv_iload_n hx hb dX10_isBoolean_90 rfl (lv_at hl 1 rfl) ?_
    refine k_if_eq hx hb rx1 dX10_isBoolean_91 (tgt := 99) rfl h (fun h => ?_) (fun h => ?_)
    · refine lv_iconst hx hb dX10_isBoolean_99 (v := jI 1) rfl ?_
      refine lv_goto hx hb dX10_isBoolean_100 (tgt := 104) rfl ?_
      exact hret _ _ _ _ _ _ h.1 h.2 hw dX10_isBoolean_104
    · refine lv_iload_n hx hb dX10_isBoolean_94 rfl (lv_at hl 1 rfl) ?_
      refine lv_iconst hx hb dX10_isBoolean_95 (v := jI 1) rfl ?_
      refine k_icmp_ne hx hb rx1 (by decide) dX10_isBoolean_96 (tgt := 103) rfl h (fun h => ?_) (fun h => ?_)
      · refine lv_iconst hx hb dX10_isBoolean_103 (v := jI 0) rfl ?_
        exact hret _ _ _ _ _ _ h.1 h.2 hw dX10_isBoolean_104
      · refine lv_iconst hx hb dX10_isBoolean_99 (v := jI 1) rfl ?_
        refine lv_goto hx hb dX10_isBoolean_100 (tgt := 104) rfl ?_
        exact hret _ _ _ _ _ _ h.1 h.2 hw dX10_isBoolean_104
  refine br_sp h (fun ek h => ?_) (fun n14 h => ?_)
  · refine k_tabIn (tgt := 88) (off := 65) hx hb dX10_isBoolean_23 ek (by decide) (by decide) rfl rfl ?_
    refine lv_iconst hx hb dX10_isBoolean_88 (v := jI 1) rfl ?_
    exact hret _ _ _ _ _ _ h.1 h.2 hw dX10_isBoolean_89
  refine k_tabOut (tgt := 90) hx hb ry0 dX10_isBoolean_23 (by omega) rfl ?_
  refine lv_iload_n hx hb dX10_isBoolean_90 rfl (lv_at hl 1 rfl) ?_
  refine k_if_eq hx hb rx1 dX10_isBoolean_91 (tgt := 99) rfl h (fun h => ?_) (fun h => ?_)
  · refine lv_iconst hx hb dX10_isBoolean_99 (v := jI 1) rfl ?_
    refine lv_goto hx hb dX10_isBoolean_100 (tgt := 104) rfl ?_
    exact hret _ _ _ _ _ _ h.1 h.2 hw dX10_isBoolean_104
  · refine lv_iload_n hx hb dX10_isBoolean_94 rfl (lv_at hl 1 rfl) ?_
    refine lv_iconst hx hb dX10_isBoolean_95 (v := jI 1) rfl ?_
    refine k_icmp_ne hx hb rx1 (by decide) dX10_isBoolean_96 (tgt := 103) rfl h (fun h => ?_) (fun h => ?_)
    · refine lv_iconst hx hb dX10_isBoolean_103 (v := jI 0) rfl ?_
      exact hret _ _ _ _ _ _ h.1 h.2 hw dX10_isBoolean_104
    · refine lv_iconst hx hb dX10_isBoolean_99 (v := jI 1) rfl ?_
      refine lv_goto hx hb dX10_isBoolean_100 (tgt := 104) rfl ?_
      exact hret _ _ _ _ _ _ h.1 h.2 hw dX10_isBoolean_104

def v_10_isBoolean (a0 : Int) (Q : Int → iST → Prop) (u : iST) : Prop :=
  v_7_isCall a0 (fun v1 u => 
  br (v1 = 0) (
    v_10_isBoolean_23 Q a0 (-1) u) (
    v_7_left a0 (fun v15 u => 
    v_10_isBoolean_23 Q a0 v15 u) u)) u
set_option maxRecDepth 20000 in
set_option maxHeartbeats 4000000 in
theorem f_10_isBoolean_s (X : yX RX10 p m c cX10_isBoolean 2 s args D ca ad A) (hRf : 1 ≤ R.frames) (hRl : 21 ≤ R.locals) {Q : Int → iST → Prop} (hret : ∀ (v : Int) (u : iST) (H : Heap) (locs : List Loc) (ls : Array Slot) (pc : Nat), bz v → Q v u → yW D ca A ad s H locs u → decode cX10_isBoolean pc = .ok (.ireturn, 1) → W p l e R s m args below meth c H locs 0 0 Qf (F0 m pc ls [.int (jI v)])) {a0 : Int} (ra0 : inR a0) (hw : yW D ca A ad s H locs u) (hl : lv_has ls 2 [(0, .ref (ad 0 8)), (1, .int (jI a0))]) (h : v_10_isBoolean a0 Q u) : W p l e R s m args below meth c H locs 0 0 Qf (F0 m 0 ls []) := by
  have hx := X.1.1
  have hb := X.1.2.1
  unfold v_10_isBoolean at h
  refine lv_aload_n hx hb dX10_isBoolean_0 rfl (lv_at hl 0 rfl) ?_
  refine yg_10_55 X hw dX10_isBoolean_1 ?_
  refine lv_iload_n hx hb dX10_isBoolean_4 rfl (lv_at hl 1 rfl) ?_
  refine ycI (n := 1) (e_7_isCall ra0 h) 7 6 (r := (RX7, TX7, 9)) rfl yG_10_103 yD_7_isCall X hw rfl yGo_7 (Nat.le_trans (Nat.le_of_ble_eq_true rfl) hRf) (Nat.le_trans (Nat.le_of_ble_eq_true rfl) hRl) rfl hl.1 (Nat.le_of_ble_eq_true rfl) rfl dX10_isBoolean_5 (fun v1 u H locs rv1 h hw => ?_)
  refine k_if_eq hx hb rv1 dX10_isBoolean_8 (tgt := 22) rfl h (fun h => ?_) (fun h => ?_)
  · refine lv_iconst hx hb dX10_isBoolean_22 (v := jI (-1)) rfl ?_
    exact f_10_isBoolean_23 X hRf hRl hret ra0 (by decide) hw hl h
  · refine lv_aload_n hx hb dX10_isBoolean_11 rfl (lv_at hl 0 rfl) ?_
    refine yg_10_55 X hw dX10_isBoolean_12 ?_
    refine lv_iload_n hx hb dX10_isBoolean_15 rfl (lv_at hl 1 rfl) ?_
    refine ycI (n := 1) (e_7_left ra0 h) 7 6 (r := (RX7, TX7, 9)) rfl yG_10_72 yD_7_left X hw rfl yGo_7 (Nat.le_trans (Nat.le_of_ble_eq_true rfl) hRf) (Nat.le_trans (Nat.le_of_ble_eq_true rfl) hRl) rfl hl.1 (Nat.le_of_ble_eq_true rfl) rfl dX10_isBoolean_16 (fun v15 u H locs rv15 h hw => ?_)
    refine lv_goto hx hb dX10_isBoolean_19 (tgt := 23) rfl ?_
    exact f_10_isBoolean_23 X hRf hRl hret ra0 rv15 hw hl h

end
theorem e_10_isBoolean {l : Launch} {a0 : Int} (ra0 : inR a0) {Q : Int → iST → Prop} {u : iST} (h : v_10_isBoolean a0 Q u) : yMI l yX10_isBoolean (.code yX10_isBoolean cX10_isBoolean 2 (some .boolean) :: wsN) { frames := 1, cells := 0, slots := 0, locals := 21 } (fun ad => [.ref (ad 0 8), .int (jI a0)]) Q u := yMZ_of (own := RX10) rfl (by decide +kernel) (fun _ => Nat.le_of_ble_eq_true rfl) (fun X hRf hRl hret hw hl => f_10_isBoolean_s X hRf hRl hret ra0 hw hl h)

/-! ProofHouse$Rewriter.lookedUp -/
theorem dX6_lookedUp_0 : decode cX6_lookedUp 0 = .ok (.iconst 0, 1) := by decide +kernel
theorem dX6_lookedUp_1 : decode cX6_lookedUp 1 = .ok (.istore 4, 2) := by decide +kernel
theorem dX6_lookedUp_3 : decode cX6_lookedUp 3 = .ok (.iconst 0, 1) := by decide +kernel
theorem dX6_lookedUp_4 : decode cX6_lookedUp 4 = .ok (.istore 5, 2) := by decide +kernel
theorem dX6_lookedUp_6 : decode cX6_lookedUp 6 = .ok (.iconst (-1), 1) := by decide +kernel
theorem dX6_lookedUp_7 : decode cX6_lookedUp 7 = .ok (.istore 6, 2) := by decide +kernel
theorem dX6_lookedUp_9 : decode cX6_lookedUp 9 = .ok (.iload_n 3, 1) := by decide +kernel
theorem dX6_lookedUp_10 : decode cX6_lookedUp 10 = .ok (.istore 7, 2) := by decide +kernel
theorem dX6_lookedUp_12 : decode cX6_lookedUp 12 = .ok (.aload_n 0, 1) := by decide +kernel
theorem dX6_lookedUp_13 : decode cX6_lookedUp 13 = .ok (.getfield 39, 3) := by decide +kernel
theorem dX6_lookedUp_16 : decode cX6_lookedUp 16 = .ok (.iload 7, 2) := by decide +kernel
theorem dX6_lookedUp_18 : decode cX6_lookedUp 18 = .ok (.invokevirtual 205, 3) := by decide +kernel
theorem dX6_lookedUp_21 : decode cX6_lookedUp 21 = .ok (.ifCond .eq 165, 3) := by decide +kernel
theorem dX6_lookedUp_24 : decode cX6_lookedUp 24 = .ok (.aload_n 0, 1) := by decide +kernel
theorem dX6_lookedUp_25 : decode cX6_lookedUp 25 = .ok (.getfield 39, 3) := by decide +kernel
theorem dX6_lookedUp_28 : decode cX6_lookedUp 28 = .ok (.iload 7, 2) := by decide +kernel
theorem dX6_lookedUp_30 : decode cX6_lookedUp 30 = .ok (.invokevirtual 120, 3) := by decide +kernel
theorem dX6_lookedUp_33 : decode cX6_lookedUp 33 = .ok (.istore 8, 2) := by decide +kernel
theorem dX6_lookedUp_35 : decode cX6_lookedUp 35 = .ok (.aload_n 0, 1) := by decide +kernel
theorem dX6_lookedUp_36 : decode cX6_lookedUp 36 = .ok (.getfield 39, 3) := by decide +kernel
theorem dX6_lookedUp_39 : decode cX6_lookedUp 39 = .ok (.iload 8, 2) := by decide +kernel
theorem dX6_lookedUp_41 : decode cX6_lookedUp 41 = .ok (.iconst 1, 1) := by decide +kernel
theorem dX6_lookedUp_42 : decode cX6_lookedUp 42 = .ok (.invokevirtual 109, 3) := by decide +kernel
theorem dX6_lookedUp_45 : decode cX6_lookedUp 45 = .ok (.istore 9, 2) := by decide +kernel
theorem dX6_lookedUp_47 : decode cX6_lookedUp 47 = .ok (.iload 4, 2) := by decide +kernel
theorem dX6_lookedUp_49 : decode cX6_lookedUp 49 = .ok (.ifCond .ne 9, 3) := by decide +kernel
theorem dX6_lookedUp_52 : decode cX6_lookedUp 52 = .ok (.iload 8, 2) := by decide +kernel
theorem dX6_lookedUp_54 : decode cX6_lookedUp 54 = .ok (.iload_n 1, 1) := by decide +kernel
theorem dX6_lookedUp_55 : decode cX6_lookedUp 55 = .ok (.if_icmp .ne 7, 3) := by decide +kernel
theorem dX6_lookedUp_58 : decode cX6_lookedUp 58 = .ok (.iconst 1, 1) := by decide +kernel
theorem dX6_lookedUp_59 : decode cX6_lookedUp 59 = .ok (.goto 4, 3) := by decide +kernel
theorem dX6_lookedUp_62 : decode cX6_lookedUp 62 = .ok (.iconst 0, 1) := by decide +kernel
theorem dX6_lookedUp_63 : decode cX6_lookedUp 63 = .ok (.istore 4, 2) := by decide +kernel
theorem dX6_lookedUp_65 : decode cX6_lookedUp 65 = .ok (.aload_n 0, 1) := by decide +kernel
theorem dX6_lookedUp_66 : decode cX6_lookedUp 66 = .ok (.getfield 39, 3) := by decide +kernel
theorem dX6_lookedUp_69 : decode cX6_lookedUp 69 = .ok (.iload 8, 2) := by decide +kernel
theorem dX6_lookedUp_71 : decode cX6_lookedUp 71 = .ok (.bipush 16, 2) := by decide +kernel
theorem dX6_lookedUp_73 : decode cX6_lookedUp 73 = .ok (.invokevirtual 175, 3) := by decide +kernel
theorem dX6_lookedUp_76 : decode cX6_lookedUp 76 = .ok (.ifCond .eq 24, 3) := by decide +kernel
theorem dX6_lookedUp_79 : decode cX6_lookedUp 79 = .ok (.iload 5, 2) := by decide +kernel
theorem dX6_lookedUp_81 : decode cX6_lookedUp 81 = .ok (.ifCond .ne 9, 3) := by decide +kernel
theorem dX6_lookedUp_84 : decode cX6_lookedUp 84 = .ok (.iload 9, 2) := by decide +kernel
theorem dX6_lookedUp_86 : decode cX6_lookedUp 86 = .ok (.iload_n 1, 1) := by decide +kernel
theorem dX6_lookedUp_87 : decode cX6_lookedUp 87 = .ok (.if_icmp .ne 7, 3) := by decide +kernel
theorem dX6_lookedUp_90 : decode cX6_lookedUp 90 = .ok (.iconst 1, 1) := by decide +kernel
theorem dX6_lookedUp_91 : decode cX6_lookedUp 91 = .ok (.goto 4, 3) := by decide +kernel
theorem dX6_lookedUp_94 : decode cX6_lookedUp 94 = .ok (.iconst 0, 1) := by decide +kernel
theorem dX6_lookedUp_95 : decode cX6_lookedUp 95 = .ok (.istore 5, 2) := by decide +kernel
theorem dX6_lookedUp_97 : decode cX6_lookedUp 97 = .ok (.goto 75, 3) := by decide +kernel
theorem dX6_lookedUp_100 : decode cX6_lookedUp 100 = .ok (.aload_n 0, 1) := by decide +kernel
theorem dX6_lookedUp_101 : decode cX6_lookedUp 101 = .ok (.getfield 39, 3) := by decide +kernel
theorem dX6_lookedUp_104 : decode cX6_lookedUp 104 = .ok (.iload 8, 2) := by decide +kernel
theorem dX6_lookedUp_106 : decode cX6_lookedUp 106 = .ok (.iconst 4, 1) := by decide +kernel
theorem dX6_lookedUp_107 : decode cX6_lookedUp 107 = .ok (.invokevirtual 175, 3) := by decide +kernel
theorem dX6_lookedUp_110 : decode cX6_lookedUp 110 = .ok (.ifCond .eq 62, 3) := by decide +kernel
theorem dX6_lookedUp_113 : decode cX6_lookedUp 113 = .ok (.aload_n 0, 1) := by decide +kernel
theorem dX6_lookedUp_114 : decode cX6_lookedUp 114 = .ok (.getfield 39, 3) := by decide +kernel
theorem dX6_lookedUp_117 : decode cX6_lookedUp 117 = .ok (.iload 8, 2) := by decide +kernel
theorem dX6_lookedUp_119 : decode cX6_lookedUp 119 = .ok (.iconst 2, 1) := by decide +kernel
theorem dX6_lookedUp_120 : decode cX6_lookedUp 120 = .ok (.invokevirtual 109, 3) := by decide +kernel
theorem dX6_lookedUp_123 : decode cX6_lookedUp 123 = .ok (.istore 10, 2) := by decide +kernel
theorem dX6_lookedUp_125 : decode cX6_lookedUp 125 = .ok (.iload 9, 2) := by decide +kernel
theorem dX6_lookedUp_127 : decode cX6_lookedUp 127 = .ok (.iload_n 1, 1) := by decide +kernel
theorem dX6_lookedUp_128 : decode cX6_lookedUp 128 = .ok (.if_icmp .ne 22, 3) := by decide +kernel
theorem dX6_lookedUp_131 : decode cX6_lookedUp 131 = .ok (.aload_n 0, 1) := by decide +kernel
theorem dX6_lookedUp_132 : decode cX6_lookedUp 132 = .ok (.getfield 39, 3) := by decide +kernel
theorem dX6_lookedUp_135 : decode cX6_lookedUp 135 = .ok (.iload 10, 2) := by decide +kernel
theorem dX6_lookedUp_137 : decode cX6_lookedUp 137 = .ok (.invokevirtual 165, 3) := by decide +kernel
theorem dX6_lookedUp_140 : decode cX6_lookedUp 140 = .ok (.ifCond .eq 10, 3) := by decide +kernel
theorem dX6_lookedUp_143 : decode cX6_lookedUp 143 = .ok (.iload 10, 2) := by decide +kernel
theorem dX6_lookedUp_145 : decode cX6_lookedUp 145 = .ok (.istore 6, 2) := by decide +kernel
theorem dX6_lookedUp_147 : decode cX6_lookedUp 147 = .ok (.goto 25, 3) := by decide +kernel
theorem dX6_lookedUp_150 : decode cX6_lookedUp 150 = .ok (.iload 10, 2) := by decide +kernel
theorem dX6_lookedUp_152 : decode cX6_lookedUp 152 = .ok (.iload_n 1, 1) := by decide +kernel
theorem dX6_lookedUp_153 : decode cX6_lookedUp 153 = .ok (.if_icmp .ne 19, 3) := by decide +kernel
theorem dX6_lookedUp_156 : decode cX6_lookedUp 156 = .ok (.aload_n 0, 1) := by decide +kernel
theorem dX6_lookedUp_157 : decode cX6_lookedUp 157 = .ok (.getfield 39, 3) := by decide +kernel
theorem dX6_lookedUp_160 : decode cX6_lookedUp 160 = .ok (.iload 9, 2) := by decide +kernel
theorem dX6_lookedUp_162 : decode cX6_lookedUp 162 = .ok (.invokevirtual 165, 3) := by decide +kernel
theorem dX6_lookedUp_165 : decode cX6_lookedUp 165 = .ok (.ifCond .eq 7, 3) := by decide +kernel
theorem dX6_lookedUp_168 : decode cX6_lookedUp 168 = .ok (.iload 9, 2) := by decide +kernel
theorem dX6_lookedUp_170 : decode cX6_lookedUp 170 = .ok (.istore 6, 2) := by decide +kernel
theorem dX6_lookedUp_172 : decode cX6_lookedUp 172 = .ok (.aload_n 0, 1) := by decide +kernel
theorem dX6_lookedUp_173 : decode cX6_lookedUp 173 = .ok (.getfield 39, 3) := by decide +kernel
theorem dX6_lookedUp_176 : decode cX6_lookedUp 176 = .ok (.iload 7, 2) := by decide +kernel
theorem dX6_lookedUp_178 : decode cX6_lookedUp 178 = .ok (.invokevirtual 188, 3) := by decide +kernel
theorem dX6_lookedUp_181 : decode cX6_lookedUp 181 = .ok (.istore 7, 2) := by decide +kernel
theorem dX6_lookedUp_183 : decode cX6_lookedUp 183 = .ok (.goto (-171), 3) := by decide +kernel
theorem dX6_lookedUp_186 : decode cX6_lookedUp 186 = .ok (.iload 4, 2) := by decide +kernel
theorem dX6_lookedUp_188 : decode cX6_lookedUp 188 = .ok (.ifCond .eq 21, 3) := by decide +kernel
theorem dX6_lookedUp_191 : decode cX6_lookedUp 191 = .ok (.iload_n 2, 1) := by decide +kernel
theorem dX6_lookedUp_192 : decode cX6_lookedUp 192 = .ok (.iconst 1, 1) := by decide +kernel
theorem dX6_lookedUp_193 : decode cX6_lookedUp 193 = .ok (.if_icmp .eq 14, 3) := by decide +kernel
theorem dX6_lookedUp_196 : decode cX6_lookedUp 196 = .ok (.aload_n 0, 1) := by decide +kernel
theorem dX6_lookedUp_197 : decode cX6_lookedUp 197 = .ok (.getfield 47, 3) := by decide +kernel
theorem dX6_lookedUp_200 : decode cX6_lookedUp 200 = .ok (.iload_n 1, 1) := by decide +kernel
theorem dX6_lookedUp_201 : decode cX6_lookedUp 201 = .ok (.invokevirtual 202, 3) := by decide +kernel
theorem dX6_lookedUp_204 : decode cX6_lookedUp 204 = .ok (.ifCond .eq 5, 3) := by decide +kernel
theorem dX6_lookedUp_207 : decode cX6_lookedUp 207 = .ok (.iconst 1, 1) := by decide +kernel
theorem dX6_lookedUp_208 : decode cX6_lookedUp 208 = .ok (.ireturn, 1) := by decide +kernel
theorem dX6_lookedUp_209 : decode cX6_lookedUp 209 = .ok (.iload 5, 2) := by decide +kernel
theorem dX6_lookedUp_211 : decode cX6_lookedUp 211 = .ok (.ifCond .eq 7, 3) := by decide +kernel
theorem dX6_lookedUp_214 : decode cX6_lookedUp 214 = .ok (.iconst 0, 1) := by decide +kernel
theorem dX6_lookedUp_215 : decode cX6_lookedUp 215 = .ok (.goto 15, 3) := by decide +kernel
theorem dX6_lookedUp_218 : decode cX6_lookedUp 218 = .ok (.iload 6, 2) := by decide +kernel
theorem dX6_lookedUp_220 : decode cX6_lookedUp 220 = .ok (.iconst (-1), 1) := by decide +kernel
theorem dX6_lookedUp_221 : decode cX6_lookedUp 221 = .ok (.if_icmp .eq 8, 3) := by decide +kernel
theorem dX6_lookedUp_224 : decode cX6_lookedUp 224 = .ok (.iload 6, 2) := by decide +kernel
theorem dX6_lookedUp_226 : decode cX6_lookedUp 226 = .ok (.goto 4, 3) := by decide +kernel
theorem dX6_lookedUp_229 : decode cX6_lookedUp 229 = .ok (.iload_n 1, 1) := by decide +kernel
theorem dX6_lookedUp_230 : decode cX6_lookedUp 230 = .ok (.ireturn, 1) := by decide +kernel

section
variable {p : Program} {l : Launch} {e : Env} {R : Room} {s : State} {m : MethodId} {args : Array Value} {below : List Frame} {meth : Method} {c : Code} {H : Heap} {locs : List Loc} {Qf : State → Prop}
variable {ls : Array Slot} {D : va_G} {ca : Nat → ClassId} {A : Nat → Prop} {ad : Nat → Nat → Nat} {u : iST}
def v_6_lookedUp_209 (Q : Int → iST → Prop) (x1 : Int) (x5 : Int) (x6 : Int) (u : iST) : Prop :=
  br (x5 = 0) (
    br (x6 = (-1)) (
      Q x1 u) (
      Q x6 u)) (
    Q 0 u)
set_option maxRecDepth 20000 in
set_option maxHeartbeats 4000000 in
theorem f_6_lookedUp_209 (X : yX RX6 p m c cX6_lookedUp 11 s args D ca ad A) (hRf : 2 ≤ R.frames) (hRl : 42 ≤ R.locals) {Q : Int → iST → Prop} (hret : ∀ (v : Int) (u : iST) (H : Heap) (locs : List Loc) (ls : Array Slot) (pc : Nat), inR v → Q v u → yW D ca A ad s H locs u → decode cX6_lookedUp pc = .ok (.ireturn, 1) → W p l e R s m args below meth c H locs 0 0 Qf (F0 m pc ls [.int (jI v)])) {x1 x5 x6 : Int} (rx1 : inR x1) (rx5 : inR x5) (rx6 : inR x6) (hw : yW D ca A ad s H locs u) (hl : lv_has ls 11 [(0, .ref (ad 0 5)), (1, .int (jI x1)), (5, .int (jI x5)), (6, .int (jI x6))]) (h : v_6_lookedUp_209 Q x1 x5 x6 u) : W p l e R s m args below meth c H locs 0 0 Qf (F0 m 209 ls []) := by
  have hx := X.1.1
  have hb := X.1.2.1
  unfold v_6_lookedUp_209 at h
  refine lv_iload hx hb dX6_lookedUp_209 (lv_at hl 2 rfl) ?_
  refine k_if_eq hx hb rx5 dX6_lookedUp_211 (tgt := 218) rfl h (fun h => ?_) (fun h => ?_)
  · refine lv_iload hx hb dX6_lookedUp_218 (lv_at hl 3 rfl) ?_
    refine lv_iconst hx hb dX6_lookedUp_220 (v := jI (-1)) rfl ?_
    refine k_icmp_eq hx hb rx6 (by decide) dX6_lookedUp_221 (tgt := 229) rfl h (fun h => ?_) (fun h => ?_)
    · refine lv_iload_n hx hb dX6_lookedUp_229 rfl (lv_at hl 1 rfl) ?_
      exact hret _ _ _ _ _ _ rx1 h hw dX6_lookedUp_230
    · refine lv_iload hx hb dX6_lookedUp_224 (lv_at hl 3 rfl) ?_
      refine lv_goto hx hb dX6_lookedUp_226 (tgt := 230) rfl ?_
      exact hret _ _ _ _ _ _ rx6 h hw dX6_lookedUp_230
  · refine lv_iconst hx hb dX6_lookedUp_214 (v := jI 0) rfl ?_
    refine lv_goto hx hb dX6_lookedUp_215 (tgt := 230) rfl ?_
    exact hret _ _ _ _ _ _ (by decide) h hw dX6_lookedUp_230

def v_6_lookedUp_172 (R12 : Int → Int → Int → Int → Int → Int → iST → Prop) (Q : Int → iST → Prop) (x1 : Int) (x2 : Int) (x4 : Int) (x5 : Int) (x6 : Int) (x7 : Int) (u : iST) : Prop :=
  v_7_right x7 (fun v7 u => 
  R12 x1 x2 x4 x5 x6 v7 u) u
set_option maxRecDepth 20000 in
set_option maxHeartbeats 4000000 in
theorem f_6_lookedUp_172 (X : yX RX6 p m c cX6_lookedUp 11 s args D ca ad A) (hRf : 2 ≤ R.frames) (hRl : 42 ≤ R.locals) {Q : Int → iST → Prop} (hret : ∀ (v : Int) (u : iST) (H : Heap) (locs : List Loc) (ls : Array Slot) (pc : Nat), inR v → Q v u → yW D ca A ad s H locs u → decode cX6_lookedUp pc = .ok (.ireturn, 1) → W p l e R s m args below meth c H locs 0 0 Qf (F0 m pc ls [.int (jI v)])) {R12 : Int → Int → Int → Int → Int → Int → iST → Prop} (hR12 : ∀ (x1 : Int) (x2 : Int) (x4 : Int) (x5 : Int) (x6 : Int) (x7 : Int) (u : iST) (H : Heap) (locs : List Loc) (ls : Array Slot), inR x1 → inR x2 → inR x4 → inR x5 → inR x6 → inR x7 → yW D ca A ad s H locs u → lv_has ls 11 [(0, .ref (ad 0 5)), (1, .int (jI x1)), (2, .int (jI x2)), (4, .int (jI x4)), (5, .int (jI x5)), (6, .int (jI x6)), (7, .int (jI x7))] → R12 x1 x2 x4 x5 x6 x7 u → W p l e R s m args below meth c H locs 0 0 Qf (F0 m 12 ls [])) {x1 x2 x4 x5 x6 x7 : Int} (rx1 : inR x1) (rx2 : inR x2) (rx4 : inR x4) (rx5 : inR x5) (rx6 : inR x6) (rx7 : inR x7) (hw : yW D ca A ad s H locs u) (hl : lv_has ls 11 [(0, .ref (ad 0 5)), (1, .int (jI x1)), (2, .int (jI x2)), (4, .int (jI x4)), (5, .int (jI x5)), (6, .int (jI x6)), (7, .int (jI x7))]) (h : v_6_lookedUp_172 R12 Q x1 x2 x4 x5 x6 x7 u) : W p l e R s m args below meth c H locs 0 0 Qf (F0 m 172 ls []) := by
  have hx := X.1.1
  have hb := X.1.2.1
  unfold v_6_lookedUp_172 at h
  refine lv_aload_n hx hb dX6_lookedUp_172 rfl (lv_at hl 0 rfl) ?_
  refine yg_6_39 X hw dX6_lookedUp_173 ?_
  refine lv_iload hx hb dX6_lookedUp_176 (lv_at hl 6 rfl) ?_
  refine ycI (n := 1) (e_7_right rx7 h) 7 6 (r := (RX7, TX7, 9)) rfl yG_6_188 yD_7_right X hw rfl yGo_7 (Nat.le_trans (Nat.le_of_ble_eq_true rfl) hRf) (Nat.le_trans (Nat.le_of_ble_eq_true rfl) hRl) rfl hl.1 (Nat.le_of_ble_eq_true rfl) rfl dX6_lookedUp_178 (fun v7 u H locs rv7 h hw => ?_)
  refine lv_istore hx hb dX6_lookedUp_181 hl (by decide) rfl (fun ls hl => ?_)
  have hl : lv_has ls 11 [(7, .int (jI v7)), (0, .ref (ad 0 5)), (1, .int (jI x1)), (2, .int (jI x2)), (4, .int (jI x4)), (5, .int (jI x5)), (6, .int (jI x6))] := hl
  refine lv_goto hx hb dX6_lookedUp_183 (tgt := 12) rfl ?_
  exact hR12 _ _ _ _ _ _ _ H locs ls rx1 rx2 rx4 rx5 rx6 rv7 hw (lv_sub hl [1, 2, 3, 4, 5, 6, 0] rfl) h

def v_6_lookedUp_150 (R12 : Int → Int → Int → Int → Int → Int → iST → Prop) (Q : Int → iST → Prop) (x1 : Int) (x2 : Int) (x4 : Int) (x5 : Int) (x6 : Int) (x7 : Int) (x9 : Int) (x10 : Int) (u : iST) : Prop :=
  br (x10 ≠ x1) (
    v_6_lookedUp_172 R12 Q x1 x2 x4 x5 x6 x7 u) (
    v_7_isConstant x9 (fun v9 u => 
    br (v9 = 0) (
      v_6_lookedUp_172 R12 Q x1 x2 x4 x5 x6 x7 u) (
      v_6_lookedUp_172 R12 Q x1 x2 x4 x5 x9 x7 u)) u)
set_option maxRecDepth 20000 in
set_option maxHeartbeats 4000000 in
theorem f_6_lookedUp_150 (X : yX RX6 p m c cX6_lookedUp 11 s args D ca ad A) (hRf : 2 ≤ R.frames) (hRl : 42 ≤ R.locals) {Q : Int → iST → Prop} (hret : ∀ (v : Int) (u : iST) (H : Heap) (locs : List Loc) (ls : Array Slot) (pc : Nat), inR v → Q v u → yW D ca A ad s H locs u → decode cX6_lookedUp pc = .ok (.ireturn, 1) → W p l e R s m args below meth c H locs 0 0 Qf (F0 m pc ls [.int (jI v)])) {R12 : Int → Int → Int → Int → Int → Int → iST → Prop} (hR12 : ∀ (x1 : Int) (x2 : Int) (x4 : Int) (x5 : Int) (x6 : Int) (x7 : Int) (u : iST) (H : Heap) (locs : List Loc) (ls : Array Slot), inR x1 → inR x2 → inR x4 → inR x5 → inR x6 → inR x7 → yW D ca A ad s H locs u → lv_has ls 11 [(0, .ref (ad 0 5)), (1, .int (jI x1)), (2, .int (jI x2)), (4, .int (jI x4)), (5, .int (jI x5)), (6, .int (jI x6)), (7, .int (jI x7))] → R12 x1 x2 x4 x5 x6 x7 u → W p l e R s m args below meth c H locs 0 0 Qf (F0 m 12 ls [])) {x1 x2 x4 x5 x6 x7 x9 x10 : Int} (rx1 : inR x1) (rx2 : inR x2) (rx4 : inR x4) (rx5 : inR x5) (rx6 : inR x6) (rx7 : inR x7) (rx9 : inR x9) (rx10 : inR x10) (hw : yW D ca A ad s H locs u) (hl : lv_has ls 11 [(0, .ref (ad 0 5)), (1, .int (jI x1)), (2, .int (jI x2)), (4, .int (jI x4)), (5, .int (jI x5)), (6, .int (jI x6)), (7, .int (jI x7)), (9, .int (jI x9)), (10, .int (jI x10))]) (h : v_6_lookedUp_150 R12 Q x1 x2 x4 x5 x6 x7 x9 x10 u) : W p l e R s m args below meth c H locs 0 0 Qf (F0 m 150 ls []) := by
  have hx := X.1.1
  have hb := X.1.2.1
  unfold v_6_lookedUp_150 at h
  refine lv_iload hx hb dX6_lookedUp_150 (lv_at hl 8 rfl) ?_
  refine lv_iload_n hx hb dX6_lookedUp_152 rfl (lv_at hl 1 rfl) ?_
  refine k_icmp_ne hx hb rx10 rx1 dX6_lookedUp_153 (tgt := 172) rfl h (fun h => ?_) (fun h => ?_)
  · exact f_6_lookedUp_172 X hRf hRl hret hR12 rx1 rx2 rx4 rx5 rx6 rx7 hw (lv_sub hl [0, 1, 2, 3, 4, 5, 6] rfl) h
  · refine lv_aload_n hx hb dX6_lookedUp_156 rfl (lv_at hl 0 rfl) ?_
    refine yg_6_39 X hw dX6_lookedUp_157 ?_
    refine lv_iload hx hb dX6_lookedUp_160 (lv_at hl 7 rfl) ?_
    refine ycI (n := 1) (e_7_isConstant rx9 h) 7 6 (r := (RX7, TX7, 9)) rfl yG_6_165 yD_7_isConstant X hw rfl yGo_7 (Nat.le_trans (Nat.le_of_ble_eq_true rfl) hRf) (Nat.le_trans (Nat.le_of_ble_eq_true rfl) hRl) rfl hl.1 (Nat.le_of_ble_eq_true rfl) rfl dX6_lookedUp_162 (fun v9 u H locs rv9 h hw => ?_)
    refine k_if_eq hx hb rv9 dX6_lookedUp_165 (tgt := 172) rfl h (fun h => ?_) (fun h => ?_)
    · exact f_6_lookedUp_172 X hRf hRl hret hR12 rx1 rx2 rx4 rx5 rx6 rx7 hw (lv_sub hl [0, 1, 2, 3, 4, 5, 6] rfl) h
    · refine lv_iload hx hb dX6_lookedUp_168 (lv_at hl 7 rfl) ?_
      refine lv_istore hx hb dX6_lookedUp_170 hl (by decide) rfl (fun ls hl => ?_)
      have hl : lv_has ls 11 [(6, .int (jI x9)), (0, .ref (ad 0 5)), (1, .int (jI x1)), (2, .int (jI x2)), (4, .int (jI x4)), (5, .int (jI x5)), (7, .int (jI x7)), (9, .int (jI x9)), (10, .int (jI x10))] := hl
      exact f_6_lookedUp_172 X hRf hRl hret hR12 rx1 rx2 rx4 rx5 rx9 rx7 hw (lv_sub hl [1, 2, 3, 4, 5, 0, 6] rfl) h

def v_6_lookedUp_95 (R12 : Int → Int → Int → Int → Int → Int → iST → Prop) (Q : Int → iST → Prop) (x1 : Int) (x2 : Int) (x4 : Int) (x6 : Int) (x7 : Int) (y0 : Int) (u : iST) : Prop :=
  v_6_lookedUp_172 R12 Q x1 x2 x4 y0 x6 x7 u
set_option maxRecDepth 20000 in
set_option maxHeartbeats 4000000 in
theorem f_6_lookedUp_95 (X : yX RX6 p m c cX6_lookedUp 11 s args D ca ad A) (hRf : 2 ≤ R.frames) (hRl : 42 ≤ R.locals) {Q : Int → iST → Prop} (hret : ∀ (v : Int) (u : iST) (H : Heap) (locs : List Loc) (ls : Array Slot) (pc : Nat), inR v → Q v u → yW D ca A ad s H locs u → decode cX6_lookedUp pc = .ok (.ireturn, 1) → W p l e R s m args below meth c H locs 0 0 Qf (F0 m pc ls [.int (jI v)])) {R12 : Int → Int → Int → Int → Int → Int → iST → Prop} (hR12 : ∀ (x1 : Int) (x2 : Int) (x4 : Int) (x5 : Int) (x6 : Int) (x7 : Int) (u : iST) (H : Heap) (locs : List Loc) (ls : Array Slot), inR x1 → inR x2 → inR x4 → inR x5 → inR x6 → inR x7 → yW D ca A ad s H locs u → lv_has ls 11 [(0, .ref (ad 0 5)), (1, .int (jI x1)), (2, .int (jI x2)), (4, .int (jI x4)), (5, .int (jI x5)), (6, .int (jI x6)), (7, .int (jI x7))] → R12 x1 x2 x4 x5 x6 x7 u → W p l e R s m args below meth c H locs 0 0 Qf (F0 m 12 ls [])) {x1 x2 x4 x6 x7 y0 : Int} (rx1 : inR x1) (rx2 : inR x2) (rx4 : inR x4) (rx6 : inR x6) (rx7 : inR x7) (ry0 : inR y0) (hw : yW D ca A ad s H locs u) (hl : lv_has ls 11 [(0, .ref (ad 0 5)), (1, .int (jI x1)), (2, .int (jI x2)), (4, .int (jI x4)), (6, .int (jI x6)), (7, .int (jI x7))]) (h : v_6_lookedUp_95 R12 Q x1 x2 x4 x6 x7 y0 u) : W p l e R s m args below meth c H locs 0 0 Qf (F0 m 95 ls [.int (jI y0)]) := by
  have hx := X.1.1
  have hb := X.1.2.1
  unfold v_6_lookedUp_95 at h
  refine lv_istore hx hb dX6_lookedUp_95 hl (by decide) rfl (fun ls hl => ?_)
  have hl : lv_has ls 11 [(5, .int (jI y0)), (0, .ref (ad 0 5)), (1, .int (jI x1)), (2, .int (jI x2)), (4, .int (jI x4)), (6, .int (jI x6)), (7, .int (jI x7))] := hl
  refine lv_goto hx hb dX6_lookedUp_97 (tgt := 172) rfl ?_
  exact f_6_lookedUp_172 X hRf hRl hret hR12 rx1 rx2 rx4 ry0 rx6 rx7 hw (lv_sub hl [1, 2, 3, 4, 0, 5, 6] rfl) h

def v_6_lookedUp_90 (R12 : Int → Int → Int → Int → Int → Int → iST → Prop) (Q : Int → iST → Prop) (x1 : Int) (x2 : Int) (x4 : Int) (x6 : Int) (x7 : Int) (u : iST) : Prop :=
  v_6_lookedUp_95 R12 Q x1 x2 x4 x6 x7 1 u
set_option maxRecDepth 20000 in
set_option maxHeartbeats 4000000 in
theorem f_6_lookedUp_90 (X : yX RX6 p m c cX6_lookedUp 11 s args D ca ad A) (hRf : 2 ≤ R.frames) (hRl : 42 ≤ R.locals) {Q : Int → iST → Prop} (hret : ∀ (v : Int) (u : iST) (H : Heap) (locs : List Loc) (ls : Array Slot) (pc : Nat), inR v → Q v u → yW D ca A ad s H locs u → decode cX6_lookedUp pc = .ok (.ireturn, 1) → W p l e R s m args below meth c H locs 0 0 Qf (F0 m pc ls [.int (jI v)])) {R12 : Int → Int → Int → Int → Int → Int → iST → Prop} (hR12 : ∀ (x1 : Int) (x2 : Int) (x4 : Int) (x5 : Int) (x6 : Int) (x7 : Int) (u : iST) (H : Heap) (locs : List Loc) (ls : Array Slot), inR x1 → inR x2 → inR x4 → inR x5 → inR x6 → inR x7 → yW D ca A ad s H locs u → lv_has ls 11 [(0, .ref (ad 0 5)), (1, .int (jI x1)), (2, .int (jI x2)), (4, .int (jI x4)), (5, .int (jI x5)), (6, .int (jI x6)), (7, .int (jI x7))] → R12 x1 x2 x4 x5 x6 x7 u → W p l e R s m args below meth c H locs 0 0 Qf (F0 m 12 ls [])) {x1 x2 x4 x6 x7 : Int} (rx1 : inR x1) (rx2 : inR x2) (rx4 : inR x4) (rx6 : inR x6) (rx7 : inR x7) (hw : yW D ca A ad s H locs u) (hl : lv_has ls 11 [(0, .ref (ad 0 5)), (1, .int (jI x1)), (2, .int (jI x2)), (4, .int (jI x4)), (6, .int (jI x6)), (7, .int (jI x7))]) (h : v_6_lookedUp_90 R12 Q x1 x2 x4 x6 x7 u) : W p l e R s m args below meth c H locs 0 0 Qf (F0 m 90 ls []) := by
  have hx := X.1.1
  have hb := X.1.2.1
  unfold v_6_lookedUp_90 at h
  refine lv_iconst hx hb dX6_lookedUp_90 (v := jI 1) rfl ?_
  refine lv_goto hx hb dX6_lookedUp_91 (tgt := 95) rfl ?_
  exact f_6_lookedUp_95 X hRf hRl hret hR12 rx1 rx2 rx4 rx6 rx7 (by decide) hw hl h

def v_6_lookedUp_63 (R12 : Int → Int → Int → Int → Int → Int → iST → Prop) (Q : Int → iST → Prop) (x1 : Int) (x2 : Int) (x5 : Int) (x6 : Int) (x7 : Int) (x8 : Int) (x9 : Int) (y0 : Int) (u : iST) : Prop :=
  v_7_isCallOf x8 16 (fun v5 u => 
  br (v5 = 0) (
    v_7_isCallOf x8 4 (fun v6 u => 
    br (v6 = 0) (
      v_6_lookedUp_172 R12 Q x1 x2 y0 x5 x6 x7 u) (
      v_7_item x8 2 (fun v8 u => 
      br (x9 ≠ x1) (
        v_6_lookedUp_150 R12 Q x1 x2 y0 x5 x6 x7 x9 v8 u) (
        v_7_isConstant v8 (fun v10 u => 
        br (v10 = 0) (
          v_6_lookedUp_150 R12 Q x1 x2 y0 x5 x6 x7 x9 v8 u) (
          v_6_lookedUp_172 R12 Q x1 x2 y0 x5 v8 x7 u)) u)) u)) u) (
    br (x5 ≠ 0) (
      v_6_lookedUp_90 R12 Q x1 x2 y0 x6 x7 u) (
      br (x9 ≠ x1) (
        v_6_lookedUp_95 R12 Q x1 x2 y0 x6 x7 0 u) (
        v_6_lookedUp_90 R12 Q x1 x2 y0 x6 x7 u)))) u
set_option maxRecDepth 20000 in
set_option maxHeartbeats 4000000 in
theorem f_6_lookedUp_63 (X : yX RX6 p m c cX6_lookedUp 11 s args D ca ad A) (hRf : 2 ≤ R.frames) (hRl : 42 ≤ R.locals) {Q : Int → iST → Prop} (hret : ∀ (v : Int) (u : iST) (H : Heap) (locs : List Loc) (ls : Array Slot) (pc : Nat), inR v → Q v u → yW D ca A ad s H locs u → decode cX6_lookedUp pc = .ok (.ireturn, 1) → W p l e R s m args below meth c H locs 0 0 Qf (F0 m pc ls [.int (jI v)])) {R12 : Int → Int → Int → Int → Int → Int → iST → Prop} (hR12 : ∀ (x1 : Int) (x2 : Int) (x4 : Int) (x5 : Int) (x6 : Int) (x7 : Int) (u : iST) (H : Heap) (locs : List Loc) (ls : Array Slot), inR x1 → inR x2 → inR x4 → inR x5 → inR x6 → inR x7 → yW D ca A ad s H locs u → lv_has ls 11 [(0, .ref (ad 0 5)), (1, .int (jI x1)), (2, .int (jI x2)), (4, .int (jI x4)), (5, .int (jI x5)), (6, .int (jI x6)), (7, .int (jI x7))] → R12 x1 x2 x4 x5 x6 x7 u → W p l e R s m args below meth c H locs 0 0 Qf (F0 m 12 ls [])) {x1 x2 x5 x6 x7 x8 x9 y0 : Int} (rx1 : inR x1) (rx2 : inR x2) (rx5 : inR x5) (rx6 : inR x6) (rx7 : inR x7) (rx8 : inR x8) (rx9 : inR x9) (ry0 : inR y0) (hw : yW D ca A ad s H locs u) (hl : lv_has ls 11 [(0, .ref (ad 0 5)), (1, .int (jI x1)), (2, .int (jI x2)), (5, .int (jI x5)), (6, .int (jI x6)), (7, .int (jI x7)), (8, .int (jI x8)), (9, .int (jI x9))]) (h : v_6_lookedUp_63 R12 Q x1 x2 x5 x6 x7 x8 x9 y0 u) : W p l e R s m args below meth c H locs 0 0 Qf (F0 m 63 ls [.int (jI y0)]) := by
  have hx := X.1.1
  have hb := X.1.2.1
  unfold v_6_lookedUp_63 at h
  refine lv_istore hx hb dX6_lookedUp_63 hl (by decide) rfl (fun ls hl => ?_)
  have hl : lv_has ls 11 [(4, .int (jI y0)), (0, .ref (ad 0 5)), (1, .int (jI x1)), (2, .int (jI x2)), (5, .int (jI x5)), (6, .int (jI x6)), (7, .int (jI x7)), (8, .int (jI x8)), (9, .int (jI x9))] := hl
  refine lv_aload_n hx hb dX6_lookedUp_65 rfl (lv_at hl 1 rfl) ?_
  refine yg_6_39 X hw dX6_lookedUp_66 ?_
  refine lv_iload hx hb dX6_lookedUp_69 (lv_at hl 7 rfl) ?_
  refine lv_bipush hx hb dX6_lookedUp_71 (v := jI 16) rfl ?_
  refine ycI (n := 2) (e_7_isCallOf rx8 (by decide) h) 7 6 (r := (RX7, TX7, 9)) rfl yG_6_175 yD_7_isCallOf X hw rfl yGo_7 (Nat.le_trans (Nat.le_of_ble_eq_true rfl) hRf) (Nat.le_trans (Nat.le_of_ble_eq_true rfl) hRl) rfl hl.1 (Nat.le_of_ble_eq_true rfl) rfl dX6_lookedUp_73 (fun v5 u H locs rv5 h hw => ?_)
  refine k_if_eq hx hb rv5 dX6_lookedUp_76 (tgt := 100) rfl h (fun h => ?_) (fun h => ?_)
  · refine lv_aload_n hx hb dX6_lookedUp_100 rfl (lv_at hl 1 rfl) ?_
    refine yg_6_39 X hw dX6_lookedUp_101 ?_
    refine lv_iload hx hb dX6_lookedUp_104 (lv_at hl 7 rfl) ?_
    refine lv_iconst hx hb dX6_lookedUp_106 (v := jI 4) rfl ?_
    refine ycI (n := 2) (e_7_isCallOf rx8 (by decide) h) 7 6 (r := (RX7, TX7, 9)) rfl yG_6_175 yD_7_isCallOf X hw rfl yGo_7 (Nat.le_trans (Nat.le_of_ble_eq_true rfl) hRf) (Nat.le_trans (Nat.le_of_ble_eq_true rfl) hRl) rfl hl.1 (Nat.le_of_ble_eq_true rfl) rfl dX6_lookedUp_107 (fun v6 u H locs rv6 h hw => ?_)
    refine k_if_eq hx hb rv6 dX6_lookedUp_110 (tgt := 172) rfl h (fun h => ?_) (fun h => ?_)
    · exact f_6_lookedUp_172 X hRf hRl hret hR12 rx1 rx2 ry0 rx5 rx6 rx7 hw (lv_sub hl [1, 2, 3, 0, 4, 5, 6] rfl) h
    · refine lv_aload_n hx hb dX6_lookedUp_113 rfl (lv_at hl 1 rfl) ?_
      refine yg_6_39 X hw dX6_lookedUp_114 ?_
      refine lv_iload hx hb dX6_lookedUp_117 (lv_at hl 7 rfl) ?_
      refine lv_iconst hx hb dX6_lookedUp_119 (v := jI 2) rfl ?_
      refine ycI (n := 2) (e_7_item rx8 (by decide) h) 7 6 (r := (RX7, TX7, 9)) rfl yG_6_109 yD_7_item X hw rfl yGo_7 (Nat.le_trans (Nat.le_of_ble_eq_true rfl) hRf) (Nat.le_trans (Nat.le_of_ble_eq_true rfl) hRl) rfl hl.1 (Nat.le_of_ble_eq_true rfl) rfl dX6_lookedUp_120 (fun v8 u H locs rv8 h hw => ?_)
      refine lv_istore hx hb dX6_lookedUp_123 hl (by decide) rfl (fun ls hl => ?_)
      have hl : lv_has ls 11 [(10, .int (jI v8)), (4, .int (jI y0)), (0, .ref (ad 0 5)), (1, .int (jI x1)), (2, .int (jI x2)), (5, .int (jI x5)), (6, .int (jI x6)), (7, .int (jI x7)), (8, .int (jI x8)), (9, .int (jI x9))] := hl
      refine lv_iload hx hb dX6_lookedUp_125 (lv_at hl 9 rfl) ?_
      refine lv_iload_n hx hb dX6_lookedUp_127 rfl (lv_at hl 3 rfl) ?_
      refine k_icmp_ne hx hb rx9 rx1 dX6_lookedUp_128 (tgt := 150) rfl h (fun h => ?_) (fun h => ?_)
      · exact f_6_lookedUp_150 X hRf hRl hret hR12 rx1 rx2 ry0 rx5 rx6 rx7 rx9 rv8 hw (lv_sub hl [2, 3, 4, 1, 5, 6, 7, 9, 0] rfl) h
      · refine lv_aload_n hx hb dX6_lookedUp_131 rfl (lv_at hl 2 rfl) ?_
        refine yg_6_39 X hw dX6_lookedUp_132 ?_
        refine lv_iload hx hb dX6_lookedUp_135 (lv_at hl 0 rfl) ?_
        refine ycI (n := 1) (e_7_isConstant rv8 h) 7 6 (r := (RX7, TX7, 9)) rfl yG_6_165 yD_7_isConstant X hw rfl yGo_7 (Nat.le_trans (Nat.le_of_ble_eq_true rfl) hRf) (Nat.le_trans (Nat.le_of_ble_eq_true rfl) hRl) rfl hl.1 (Nat.le_of_ble_eq_true rfl) rfl dX6_lookedUp_137 (fun v10 u H locs rv10 h hw => ?_)
        refine k_if_eq hx hb rv10 dX6_lookedUp_140 (tgt := 150) rfl h (fun h => ?_) (fun h => ?_)
        · exact f_6_lookedUp_150 X hRf hRl hret hR12 rx1 rx2 ry0 rx5 rx6 rx7 rx9 rv8 hw (lv_sub hl [2, 3, 4, 1, 5, 6, 7, 9, 0] rfl) h
        · refine lv_iload hx hb dX6_lookedUp_143 (lv_at hl 0 rfl) ?_
          refine lv_istore hx hb dX6_lookedUp_145 hl (by decide) rfl (fun ls hl => ?_)
          have hl : lv_has ls 11 [(6, .int (jI v8)), (10, .int (jI v8)), (4, .int (jI y0)), (0, .ref (ad 0 5)), (1, .int (jI x1)), (2, .int (jI x2)), (5, .int (jI x5)), (7, .int (jI x7)), (8, .int (jI x8)), (9, .int (jI x9))] := hl
          refine lv_goto hx hb dX6_lookedUp_147 (tgt := 172) rfl ?_
          exact f_6_lookedUp_172 X hRf hRl hret hR12 rx1 rx2 ry0 rx5 rv8 rx7 hw (lv_sub hl [3, 4, 5, 2, 6, 0, 7] rfl) h
  · refine lv_iload hx hb dX6_lookedUp_79 (lv_at hl 4 rfl) ?_
    refine k_if_ne hx hb rx5 dX6_lookedUp_81 (tgt := 90) rfl h (fun h => ?_) (fun h => ?_)
    · exact f_6_lookedUp_90 X hRf hRl hret hR12 rx1 rx2 ry0 rx6 rx7 hw (lv_sub hl [1, 2, 3, 0, 5, 6] rfl) h
    · refine lv_iload hx hb dX6_lookedUp_84 (lv_at hl 8 rfl) ?_
      refine lv_iload_n hx hb dX6_lookedUp_86 rfl (lv_at hl 2 rfl) ?_
      refine k_icmp_ne hx hb rx9 rx1 dX6_lookedUp_87 (tgt := 94) rfl h (fun h => ?_) (fun h => ?_)
      · refine lv_iconst hx hb dX6_lookedUp_94 (v := jI 0) rfl ?_
        exact f_6_lookedUp_95 X hRf hRl hret hR12 rx1 rx2 ry0 rx6 rx7 (by decide) hw (lv_sub hl [1, 2, 3, 0, 5, 6] rfl) h
      · exact f_6_lookedUp_90 X hRf hRl hret hR12 rx1 rx2 ry0 rx6 rx7 hw (lv_sub hl [1, 2, 3, 0, 5, 6] rfl) h

def v_6_lookedUp_58 (R12 : Int → Int → Int → Int → Int → Int → iST → Prop) (Q : Int → iST → Prop) (x1 : Int) (x2 : Int) (x5 : Int) (x6 : Int) (x7 : Int) (x8 : Int) (x9 : Int) (u : iST) : Prop :=
  v_6_lookedUp_63 R12 Q x1 x2 x5 x6 x7 x8 x9 1 u
set_option maxRecDepth 20000 in
set_option maxHeartbeats 4000000 in
theorem f_6_lookedUp_58 (X : yX RX6 p m c cX6_lookedUp 11 s args D ca ad A) (hRf : 2 ≤ R.frames) (hRl : 42 ≤ R.locals) {Q : Int → iST → Prop} (hret : ∀ (v : Int) (u : iST) (H : Heap) (locs : List Loc) (ls : Array Slot) (pc : Nat), inR v → Q v u → yW D ca A ad s H locs u → decode cX6_lookedUp pc = .ok (.ireturn, 1) → W p l e R s m args below meth c H locs 0 0 Qf (F0 m pc ls [.int (jI v)])) {R12 : Int → Int → Int → Int → Int → Int → iST → Prop} (hR12 : ∀ (x1 : Int) (x2 : Int) (x4 : Int) (x5 : Int) (x6 : Int) (x7 : Int) (u : iST) (H : Heap) (locs : List Loc) (ls : Array Slot), inR x1 → inR x2 → inR x4 → inR x5 → inR x6 → inR x7 → yW D ca A ad s H locs u → lv_has ls 11 [(0, .ref (ad 0 5)), (1, .int (jI x1)), (2, .int (jI x2)), (4, .int (jI x4)), (5, .int (jI x5)), (6, .int (jI x6)), (7, .int (jI x7))] → R12 x1 x2 x4 x5 x6 x7 u → W p l e R s m args below meth c H locs 0 0 Qf (F0 m 12 ls [])) {x1 x2 x5 x6 x7 x8 x9 : Int} (rx1 : inR x1) (rx2 : inR x2) (rx5 : inR x5) (rx6 : inR x6) (rx7 : inR x7) (rx8 : inR x8) (rx9 : inR x9) (hw : yW D ca A ad s H locs u) (hl : lv_has ls 11 [(0, .ref (ad 0 5)), (1, .int (jI x1)), (2, .int (jI x2)), (5, .int (jI x5)), (6, .int (jI x6)), (7, .int (jI x7)), (8, .int (jI x8)), (9, .int (jI x9))]) (h : v_6_lookedUp_58 R12 Q x1 x2 x5 x6 x7 x8 x9 u) : W p l e R s m args below meth c H locs 0 0 Qf (F0 m 58 ls []) := by
  have hx := X.1.1
  have hb := X.1.2.1
  unfold v_6_lookedUp_58 at h
  refine lv_iconst hx hb dX6_lookedUp_58 (v := jI 1) rfl ?_
  refine lv_goto hx hb dX6_lookedUp_59 (tgt := 63) rfl ?_
  exact f_6_lookedUp_63 X hRf hRl hret hR12 rx1 rx2 rx5 rx6 rx7 rx8 rx9 (by decide) hw hl h

def v_6_lookedUp_12b (R12 : Int → Int → Int → Int → Int → Int → iST → Prop) (Q : Int → iST → Prop) (x1 : Int) (x2 : Int) (x4 : Int) (x5 : Int) (x6 : Int) (x7 : Int) (u : iST) : Prop :=
  v_7_isPair x7 (fun v1 u => 
  br (v1 = 0) (
    br (x4 = 0) (
      v_6_lookedUp_209 Q x1 x5 x6 u) (
      br (x2 = 1) (
        Q 1 u) (
        v_10_isBoolean x1 (fun v2 u => 
        br (v2 = 0) (
          v_6_lookedUp_209 Q x1 x5 x6 u) (
          Q 1 u)) u))) (
    v_7_left x7 (fun v3 u => 
    v_7_item v3 1 (fun v4 u => 
    br (x4 ≠ 0) (
      v_6_lookedUp_58 R12 Q x1 x2 x5 x6 x7 v3 v4 u) (
      br (v3 ≠ x1) (
        v_6_lookedUp_63 R12 Q x1 x2 x5 x6 x7 v3 v4 0 u) (
        v_6_lookedUp_58 R12 Q x1 x2 x5 x6 x7 v3 v4 u))) u) u)) u
def v_6_lookedUp_12 (Q : Int → iST → Prop) (x1 : Int) (x2 : Int) (x4 : Int) (x5 : Int) (x6 : Int) (x7 : Int) (u : iST) : Prop := ∀ R12 : Int → Int → Int → Int → Int → Int → iST → Prop, (∀ (x1 : Int) (x2 : Int) (x4 : Int) (x5 : Int) (x6 : Int) (x7 : Int) (u : iST), v_6_lookedUp_12b R12 Q x1 x2 x4 x5 x6 x7 u → R12 x1 x2 x4 x5 x6 x7 u) → R12 x1 x2 x4 x5 x6 x7 u
set_option maxRecDepth 20000 in
set_option maxHeartbeats 4000000 in
theorem f_6_lookedUp_12 (X : yX RX6 p m c cX6_lookedUp 11 s args D ca ad A) (hRf : 2 ≤ R.frames) (hRl : 42 ≤ R.locals) {Q : Int → iST → Prop} (hret : ∀ (v : Int) (u : iST) (H : Heap) (locs : List Loc) (ls : Array Slot) (pc : Nat), inR v → Q v u → yW D ca A ad s H locs u → decode cX6_lookedUp pc = .ok (.ireturn, 1) → W p l e R s m args below meth c H locs 0 0 Qf (F0 m pc ls [.int (jI v)])) {x1 x2 x4 x5 x6 x7 : Int} (rx1 : inR x1) (rx2 : inR x2) (rx4 : inR x4) (rx5 : inR x5) (rx6 : inR x6) (rx7 : inR x7) (hw : yW D ca A ad s H locs u) (hl : lv_has ls 11 [(0, .ref (ad 0 5)), (1, .int (jI x1)), (2, .int (jI x2)), (4, .int (jI x4)), (5, .int (jI x5)), (6, .int (jI x6)), (7, .int (jI x7))]) (h : v_6_lookedUp_12 Q x1 x2 x4 x5 x6 x7 u) : W p l e R s m args below meth c H locs 0 0 Qf (F0 m 12 ls []) := by
  refine h (fun x1 x2 x4 x5 x6 x7 u => ∀ (H : Heap) (locs : List Loc) (ls : Array Slot), inR x1 → inR x2 → inR x4 → inR x5 → inR x6 → inR x7 → yW D ca A ad s H locs u → lv_has ls 11 [(0, .ref (ad 0 5)), (1, .int (jI x1)), (2, .int (jI x2)), (4, .int (jI x4)), (5, .int (jI x5)), (6, .int (jI x6)), (7, .int (jI x7))] → W p l e R s m args below meth c H locs 0 0 Qf (F0 m 12 ls [])) ?_ H locs ls rx1 rx2 rx4 rx5 rx6 rx7 hw hl
  clear h hl hw rx1 rx2 rx4 rx5 rx6 rx7
  intro x1 x2 x4 x5 x6 x7 u h H locs ls rx1 rx2 rx4 rx5 rx6 rx7 hw hl
  have hR12 : ∀ (x1 : Int) (x2 : Int) (x4 : Int) (x5 : Int) (x6 : Int) (x7 : Int) (u : iST) (H : Heap) (locs : List Loc) (ls : Array Slot), inR x1 → inR x2 → inR x4 → inR x5 → inR x6 → inR x7 → yW D ca A ad s H locs u → lv_has ls 11 [(0, .ref (ad 0 5)), (1, .int (jI x1)), (2, .int (jI x2)), (4, .int (jI x4)), (5, .int (jI x5)), (6, .int (jI x6)), (7, .int (jI x7))] → (fun (x1 : Int) (x2 : Int) (x4 : Int) (x5 : Int) (x6 : Int) (x7 : Int) u => ∀ (H : Heap) (locs : List Loc) (ls : Array Slot), inR x1 → inR x2 → inR x4 → inR x5 → inR x6 → inR x7 → yW D ca A ad s H locs u → lv_has ls 11 [(0, .ref (ad 0 5)), (1, .int (jI x1)), (2, .int (jI x2)), (4, .int (jI x4)), (5, .int (jI x5)), (6, .int (jI x6)), (7, .int (jI x7))] → W p l e R s m args below meth c H locs 0 0 Qf (F0 m 12 ls [])) x1 x2 x4 x5 x6 x7 u → W p l e R s m args below meth c H locs 0 0 Qf (F0 m 12 ls []) := fun x1 x2 x4 x5 x6 x7 u H locs ls rx1 rx2 rx4 rx5 rx6 rx7 hw hl h => h H locs ls rx1 rx2 rx4 rx5 rx6 rx7 hw hl
  have hx := X.1.1
  have hb := X.1.2.1
  unfold v_6_lookedUp_12b at h
  refine lv_aload_n hx hb dX6_lookedUp_12 rfl (lv_at hl 0 rfl) ?_
  refine yg_6_39 X hw dX6_lookedUp_13 ?_
  refine lv_iload hx hb dX6_lookedUp_16 (lv_at hl 6 rfl) ?_
  refine ycI (n := 1) (e_7_isPair rx7 h) 7 6 (r := (RX7, TX7, 9)) rfl yG_6_205 yD_7_isPair X hw rfl yGo_7 (Nat.le_trans (Nat.le_of_ble_eq_true rfl) hRf) (Nat.le_trans (Nat.le_of_ble_eq_true rfl) hRl) rfl hl.1 (Nat.le_of_ble_eq_true rfl) rfl dX6_lookedUp_18 (fun v1 u H locs rv1 h hw => ?_)
  refine k_if_eq hx hb rv1 dX6_lookedUp_21 (tgt := 186) rfl h (fun h => ?_) (fun h => ?_)
  · refine lv_iload hx hb dX6_lookedUp_186 (lv_at hl 3 rfl) ?_
    refine k_if_eq hx hb rx4 dX6_lookedUp_188 (tgt := 209) rfl h (fun h => ?_) (fun h => ?_)
    · exact f_6_lookedUp_209 X hRf hRl hret rx1 rx5 rx6 hw (lv_sub hl [0, 1, 4, 5] rfl) h
    · refine lv_iload_n hx hb dX6_lookedUp_191 rfl (lv_at hl 2 rfl) ?_
      refine lv_iconst hx hb dX6_lookedUp_192 (v := jI 1) rfl ?_
      refine k_icmp_eq hx hb rx2 (by decide) dX6_lookedUp_193 (tgt := 207) rfl h (fun h => ?_) (fun h => ?_)
      · refine lv_iconst hx hb dX6_lookedUp_207 (v := jI 1) rfl ?_
        exact hret _ _ _ _ _ _ (by decide) h hw dX6_lookedUp_208
      · refine lv_aload_n hx hb dX6_lookedUp_196 rfl (lv_at hl 0 rfl) ?_
        refine yg_6_47 X hw dX6_lookedUp_197 ?_
        refine lv_iload_n hx hb dX6_lookedUp_200 rfl (lv_at hl 1 rfl) ?_
        refine ycI (n := 1) (e_10_isBoolean rx1 h) 10 8 (r := (RX10, TX10, 16)) rfl yG_6_202 yD_10_isBoolean X hw rfl yGo_10 (Nat.le_trans (Nat.le_of_ble_eq_true rfl) hRf) (Nat.le_trans (Nat.le_of_ble_eq_true rfl) hRl) rfl hl.1 (Nat.le_of_ble_eq_true rfl) rfl dX6_lookedUp_201 (fun v2 u H locs rv2 h hw => ?_)
        refine k_if_eq hx hb rv2 dX6_lookedUp_204 (tgt := 209) rfl h (fun h => ?_) (fun h => ?_)
        · exact f_6_lookedUp_209 X hRf hRl hret rx1 rx5 rx6 hw (lv_sub hl [0, 1, 4, 5] rfl) h
        · refine lv_iconst hx hb dX6_lookedUp_207 (v := jI 1) rfl ?_
          exact hret _ _ _ _ _ _ (by decide) h hw dX6_lookedUp_208
  · refine lv_aload_n hx hb dX6_lookedUp_24 rfl (lv_at hl 0 rfl) ?_
    refine yg_6_39 X hw dX6_lookedUp_25 ?_
    refine lv_iload hx hb dX6_lookedUp_28 (lv_at hl 6 rfl) ?_
    refine ycI (n := 1) (e_7_left rx7 h) 7 6 (r := (RX7, TX7, 9)) rfl yG_6_120 yD_7_left X hw rfl yGo_7 (Nat.le_trans (Nat.le_of_ble_eq_true rfl) hRf) (Nat.le_trans (Nat.le_of_ble_eq_true rfl) hRl) rfl hl.1 (Nat.le_of_ble_eq_true rfl) rfl dX6_lookedUp_30 (fun v3 u H locs rv3 h hw => ?_)
    refine lv_istore hx hb dX6_lookedUp_33 hl (by decide) rfl (fun ls hl => ?_)
    have hl : lv_has ls 11 [(8, .int (jI v3)), (0, .ref (ad 0 5)), (1, .int (jI x1)), (2, .int (jI x2)), (4, .int (jI x4)), (5, .int (jI x5)), (6, .int (jI x6)), (7, .int (jI x7))] := hl
    refine lv_aload_n hx hb dX6_lookedUp_35 rfl (lv_at hl 1 rfl) ?_
    refine yg_6_39 X hw dX6_lookedUp_36 ?_
    refine lv_iload hx hb dX6_lookedUp_39 (lv_at hl 0 rfl) ?_
    refine lv_iconst hx hb dX6_lookedUp_41 (v := jI 1) rfl ?_
    refine ycI (n := 2) (e_7_item rv3 (by decide) h) 7 6 (r := (RX7, TX7, 9)) rfl yG_6_109 yD_7_item X hw rfl yGo_7 (Nat.le_trans (Nat.le_of_ble_eq_true rfl) hRf) (Nat.le_trans (Nat.le_of_ble_eq_true rfl) hRl) rfl hl.1 (Nat.le_of_ble_eq_true rfl) rfl dX6_lookedUp_42 (fun v4 u H locs rv4 h hw => ?_)
    refine lv_istore hx hb dX6_lookedUp_45 hl (by decide) rfl (fun ls hl => ?_)
    have hl : lv_has ls 11 [(9, .int (jI v4)), (8, .int (jI v3)), (0, .ref (ad 0 5)), (1, .int (jI x1)), (2, .int (jI x2)), (4, .int (jI x4)), (5, .int (jI x5)), (6, .int (jI x6)), (7, .int (jI x7))] := hl
    refine lv_iload hx hb dX6_lookedUp_47 (lv_at hl 5 rfl) ?_
    refine k_if_ne hx hb rx4 dX6_lookedUp_49 (tgt := 58) rfl h (fun h => ?_) (fun h => ?_)
    · exact f_6_lookedUp_58 X hRf hRl hret hR12 rx1 rx2 rx5 rx6 rx7 rv3 rv4 hw (lv_sub hl [2, 3, 4, 6, 7, 8, 1, 0] rfl) h
    · refine lv_iload hx hb dX6_lookedUp_52 (lv_at hl 1 rfl) ?_
      refine lv_iload_n hx hb dX6_lookedUp_54 rfl (lv_at hl 3 rfl) ?_
      refine k_icmp_ne hx hb rv3 rx1 dX6_lookedUp_55 (tgt := 62) rfl h (fun h => ?_) (fun h => ?_)
      · refine lv_iconst hx hb dX6_lookedUp_62 (v := jI 0) rfl ?_
        exact f_6_lookedUp_63 X hRf hRl hret hR12 rx1 rx2 rx5 rx6 rx7 rv3 rv4 (by decide) hw (lv_sub hl [2, 3, 4, 6, 7, 8, 1, 0] rfl) h
      · exact f_6_lookedUp_58 X hRf hRl hret hR12 rx1 rx2 rx5 rx6 rx7 rv3 rv4 hw (lv_sub hl [2, 3, 4, 6, 7, 8, 1, 0] rfl) h

def v_6_lookedUp (a0 : Int) (a1 : Int) (a2 : Int) (Q : Int → iST → Prop) (u : iST) : Prop :=
  v_6_lookedUp_12 Q a0 a1 0 0 (-1) a2 u
set_option maxRecDepth 20000 in
set_option maxHeartbeats 4000000 in
theorem f_6_lookedUp_s (X : yX RX6 p m c cX6_lookedUp 11 s args D ca ad A) (hRf : 2 ≤ R.frames) (hRl : 42 ≤ R.locals) {Q : Int → iST → Prop} (hret : ∀ (v : Int) (u : iST) (H : Heap) (locs : List Loc) (ls : Array Slot) (pc : Nat), inR v → Q v u → yW D ca A ad s H locs u → decode cX6_lookedUp pc = .ok (.ireturn, 1) → W p l e R s m args below meth c H locs 0 0 Qf (F0 m pc ls [.int (jI v)])) {a0 a1 a2 : Int} (ra0 : inR a0) (ra1 : inR a1) (ra2 : inR a2) (hw : yW D ca A ad s H locs u) (hl : lv_has ls 11 [(0, .ref (ad 0 5)), (1, .int (jI a0)), (2, .int (jI a1)), (3, .int (jI a2))]) (h : v_6_lookedUp a0 a1 a2 Q u) : W p l e R s m args below meth c H locs 0 0 Qf (F0 m 0 ls []) := by
  have hx := X.1.1
  have hb := X.1.2.1
  unfold v_6_lookedUp at h
  refine lv_iconst hx hb dX6_lookedUp_0 (v := jI 0) rfl ?_
  refine lv_istore hx hb dX6_lookedUp_1 hl (by decide) rfl (fun ls hl => ?_)
  have hl : lv_has ls 11 [(4, .int (jI 0)), (0, .ref (ad 0 5)), (1, .int (jI a0)), (2, .int (jI a1)), (3, .int (jI a2))] := hl
  refine lv_iconst hx hb dX6_lookedUp_3 (v := jI 0) rfl ?_
  refine lv_istore hx hb dX6_lookedUp_4 hl (by decide) rfl (fun ls hl => ?_)
  have hl : lv_has ls 11 [(5, .int (jI 0)), (4, .int (jI 0)), (0, .ref (ad 0 5)), (1, .int (jI a0)), (2, .int (jI a1)), (3, .int (jI a2))] := hl
  refine lv_iconst hx hb dX6_lookedUp_6 (v := jI (-1)) rfl ?_
  refine lv_istore hx hb dX6_lookedUp_7 hl (by decide) rfl (fun ls hl => ?_)
  have hl : lv_has ls 11 [(6, .int (jI (-1))), (5, .int (jI 0)), (4, .int (jI 0)), (0, .ref (ad 0 5)), (1, .int (jI a0)), (2, .int (jI a1)), (3, .int (jI a2))] := hl
  refine lv_iload_n hx hb dX6_lookedUp_9 rfl (lv_at hl 6 rfl) ?_
  refine lv_istore hx hb dX6_lookedUp_10 hl (by decide) rfl (fun ls hl => ?_)
  have hl : lv_has ls 11 [(7, .int (jI a2)), (6, .int (jI (-1))), (5, .int (jI 0)), (4, .int (jI 0)), (0, .ref (ad 0 5)), (1, .int (jI a0)), (2, .int (jI a1)), (3, .int (jI a2))] := hl
  exact f_6_lookedUp_12 X hRf hRl hret ra0 ra1 (by decide) (by decide) (by decide) ra2 hw (lv_sub hl [4, 5, 6, 3, 2, 1, 0] rfl) h

end
theorem e_6_lookedUp {l : Launch} {a0 : Int} {a1 : Int} {a2 : Int} (ra0 : inR a0) (ra1 : inR a1) (ra2 : inR a2) {Q : Int → iST → Prop} {u : iST} (h : v_6_lookedUp a0 a1 a2 Q u) : yMI l yX6_lookedUp (.code yX6_lookedUp cX6_lookedUp 11 (some .int) :: wsN) { frames := 2, cells := 0, slots := 0, locals := 42 } (fun ad => [.ref (ad 0 5), .int (jI a0), .int (jI a1), .int (jI a2)]) Q u := yMI_of (own := RX6) rfl (by decide +kernel) (fun _ => Nat.le_of_ble_eq_true rfl) (fun X hRf hRl hret hw hl => f_6_lookedUp_s X hRf hRl hret ra0 ra1 ra2 hw hl h)
