/-! ProofHouse$Rewriter.seek -/
theorem dX6_seek_0 : decode cX6_seek 0 = .ok (.aload_n 1, 1) := by decide +kernel
theorem dX6_seek_1 : decode cX6_seek 1 = .ok (.bipush 8, 2) := by decide +kernel
theorem dX6_seek_3 : decode cX6_seek 3 = .ok (.iaload, 1) := by decide +kernel
theorem dX6_seek_4 : decode cX6_seek 4 = .ok (.istore_n 2, 1) := by decide +kernel
theorem dX6_seek_5 : decode cX6_seek 5 = .ok (.iload_n 2, 1) := by decide +kernel
theorem dX6_seek_6 : decode cX6_seek 6 = .ok (.ifCond .lt 98, 3) := by decide +kernel
theorem dX6_seek_9 : decode cX6_seek 9 = .ok (.aload_n 0, 1) := by decide +kernel
theorem dX6_seek_10 : decode cX6_seek 10 = .ok (.getfield 39, 3) := by decide +kernel
theorem dX6_seek_13 : decode cX6_seek 13 = .ok (.getfield 77, 3) := by decide +kernel
theorem dX6_seek_16 : decode cX6_seek 16 = .ok (.ifCond .ne 88, 3) := by decide +kernel
theorem dX6_seek_19 : decode cX6_seek 19 = .ok (.aload_n 0, 1) := by decide +kernel
theorem dX6_seek_20 : decode cX6_seek 20 = .ok (.getfield 43, 3) := by decide +kernel
theorem dX6_seek_23 : decode cX6_seek 23 = .ok (.iload_n 2, 1) := by decide +kernel
theorem dX6_seek_24 : decode cX6_seek 24 = .ok (.aload_n 1, 1) := by decide +kernel
theorem dX6_seek_25 : decode cX6_seek 25 = .ok (.iconst 1, 1) := by decide +kernel
theorem dX6_seek_26 : decode cX6_seek 26 = .ok (.iaload, 1) := by decide +kernel
theorem dX6_seek_27 : decode cX6_seek 27 = .ok (.invokevirtual 240, 3) := by decide +kernel
theorem dX6_seek_30 : decode cX6_seek 30 = .ok (.ifCond .eq 68, 3) := by decide +kernel
theorem dX6_seek_33 : decode cX6_seek 33 = .ok (.aload_n 0, 1) := by decide +kernel
theorem dX6_seek_34 : decode cX6_seek 34 = .ok (.getfield 47, 3) := by decide +kernel
theorem dX6_seek_37 : decode cX6_seek 37 = .ok (.aload_n 0, 1) := by decide +kernel
theorem dX6_seek_38 : decode cX6_seek 38 = .ok (.getfield 43, 3) := by decide +kernel
theorem dX6_seek_41 : decode cX6_seek 41 = .ok (.getfield 243, 3) := by decide +kernel
theorem dX6_seek_44 : decode cX6_seek 44 = .ok (.iload_n 2, 1) := by decide +kernel
theorem dX6_seek_45 : decode cX6_seek 45 = .ok (.iaload, 1) := by decide +kernel
theorem dX6_seek_46 : decode cX6_seek 46 = .ok (.aload_n 1, 1) := by decide +kernel
theorem dX6_seek_47 : decode cX6_seek 47 = .ok (.iconst 5, 1) := by decide +kernel
theorem dX6_seek_48 : decode cX6_seek 48 = .ok (.iaload, 1) := by decide +kernel
theorem dX6_seek_49 : decode cX6_seek 49 = .ok (.invokevirtual 247, 3) := by decide +kernel
theorem dX6_seek_52 : decode cX6_seek 52 = .ok (.ifCond .eq 46, 3) := by decide +kernel
theorem dX6_seek_55 : decode cX6_seek 55 = .ok (.aload_n 0, 1) := by decide +kernel
theorem dX6_seek_56 : decode cX6_seek 56 = .ok (.getfield 39, 3) := by decide +kernel
theorem dX6_seek_59 : decode cX6_seek 59 = .ok (.invokevirtual 155, 3) := by decide +kernel
theorem dX6_seek_62 : decode cX6_seek 62 = .ok (.ifCond .eq 36, 3) := by decide +kernel
theorem dX6_seek_65 : decode cX6_seek 65 = .ok (.aload_n 1, 1) := by decide +kernel
theorem dX6_seek_66 : decode cX6_seek 66 = .ok (.bipush 8, 2) := by decide +kernel
theorem dX6_seek_68 : decode cX6_seek 68 = .ok (.iload_n 2, 1) := by decide +kernel
theorem dX6_seek_69 : decode cX6_seek 69 = .ok (.iastore, 1) := by decide +kernel
theorem dX6_seek_70 : decode cX6_seek 70 = .ok (.aload_n 1, 1) := by decide +kernel
theorem dX6_seek_71 : decode cX6_seek 71 = .ok (.bipush 9, 2) := by decide +kernel
theorem dX6_seek_73 : decode cX6_seek 73 = .ok (.iconst 0, 1) := by decide +kernel
theorem dX6_seek_74 : decode cX6_seek 74 = .ok (.iastore, 1) := by decide +kernel
theorem dX6_seek_75 : decode cX6_seek 75 = .ok (.aload_n 1, 1) := by decide +kernel
theorem dX6_seek_76 : decode cX6_seek 76 = .ok (.iconst 3, 1) := by decide +kernel
theorem dX6_seek_77 : decode cX6_seek 77 = .ok (.aload_n 0, 1) := by decide +kernel
theorem dX6_seek_78 : decode cX6_seek 78 = .ok (.getfield 43, 3) := by decide +kernel
theorem dX6_seek_81 : decode cX6_seek 81 = .ok (.getfield 250, 3) := by decide +kernel
theorem dX6_seek_84 : decode cX6_seek 84 = .ok (.iload_n 2, 1) := by decide +kernel
theorem dX6_seek_85 : decode cX6_seek 85 = .ok (.baload, 1) := by decide +kernel
theorem dX6_seek_86 : decode cX6_seek 86 = .ok (.ifCond .eq 8, 3) := by decide +kernel
theorem dX6_seek_89 : decode cX6_seek 89 = .ok (.bipush 13, 2) := by decide +kernel
theorem dX6_seek_91 : decode cX6_seek 91 = .ok (.goto 5, 3) := by decide +kernel
theorem dX6_seek_94 : decode cX6_seek 94 = .ok (.bipush 14, 2) := by decide +kernel
theorem dX6_seek_96 : decode cX6_seek 96 = .ok (.iastore, 1) := by decide +kernel
theorem dX6_seek_97 : decode cX6_seek 97 = .ok (.return_, 1) := by decide +kernel
theorem dX6_seek_98 : decode cX6_seek 98 = .ok (.iinc 2 (-1), 3) := by decide +kernel
theorem dX6_seek_101 : decode cX6_seek 101 = .ok (.goto (-96), 3) := by decide +kernel
theorem dX6_seek_104 : decode cX6_seek 104 = .ok (.aload_n 1, 1) := by decide +kernel
theorem dX6_seek_105 : decode cX6_seek 105 = .ok (.iconst 3, 1) := by decide +kernel
theorem dX6_seek_106 : decode cX6_seek 106 = .ok (.bipush 16, 2) := by decide +kernel
theorem dX6_seek_108 : decode cX6_seek 108 = .ok (.iastore, 1) := by decide +kernel
theorem dX6_seek_109 : decode cX6_seek 109 = .ok (.return_, 1) := by decide +kernel

section
variable {p : Program} {l : Launch} {e : Env} {R : Room} {s : State} {m : MethodId} {args : Array Value} {below : List Frame} {meth : Method} {c : Code} {H : Heap} {locs : List Loc} {Qf : State → Prop}
variable {ls : Array Slot} {D : va_G} {ca : Nat → ClassId} {A : Nat → Prop} {ad : Nat → Nat → Nat} {u : iST}
def v_6_seek_104 (Q : iST → Prop) (x1 : Int) (u : iST) : Prop :=
  bd 3 17 (sw (iA u 51 (17 * x1 + 3) 16) (fun u => 
  Q u))
set_option maxRecDepth 20000 in
set_option maxHeartbeats 4000000 in
theorem f_6_seek_104 (X : yX RX6 p m c cX6_seek 3 s args D ca ad A) (hRf : 2 ≤ R.frames) (hRl : 50 ≤ R.locals) {Q : iST → Prop} (hret : ∀ (u : iST) (H : Heap) (locs : List Loc) (ls : Array Slot) (pc : Nat), Q u → yW D ca A ad s H locs u → decode cX6_seek pc = .ok (.return_, 1) → W p l e R s m args below meth c H locs 0 0 Qf (F0 m pc ls [])) {x1 : Int} (rx1 : (0 ≤ x1 ∧ x1 < 60)) (hw : yW D ca A ad s H locs u) (hl : lv_has ls 3 [(0, .ref (ad 0 5)), (1, .ref (ad 7 x1.toNat))]) (h : v_6_seek_104 Q x1 u) : W p l e R s m args below meth c H locs 0 0 Qf (F0 m 104 ls []) := by
  have hx := X.1.1
  have hb := X.1.2.1
  unfold v_6_seek_104 at h
  refine lv_aload_n hx hb dX6_seek_104 rfl (lv_at hl 1 rfl) ?_
  refine lv_iconst hx hb dX6_seek_105 (v := jI 3) rfl ?_
  refine lv_bipush hx hb dX6_seek_106 (v := jI 16) rfl ?_
  refine yft_frames X hw rx1 (by decide) (by decide) dX6_seek_108 h (fun H locs u hw h => ?_)
  exact hret _ _ _ _ _ h hw dX6_seek_109

def v_6_seek_96 (Q : iST → Prop) (y0 : Int) (y1 : Int) (y2 : Int) (u : iST) : Prop :=
  bd y1 17 (sw (iA u 51 (17 * y0 + y1) y2) (fun u => 
  Q u))
set_option maxRecDepth 20000 in
set_option maxHeartbeats 4000000 in
theorem f_6_seek_96 (X : yX RX6 p m c cX6_seek 3 s args D ca ad A) (hRf : 2 ≤ R.frames) (hRl : 50 ≤ R.locals) {Q : iST → Prop} (hret : ∀ (u : iST) (H : Heap) (locs : List Loc) (ls : Array Slot) (pc : Nat), Q u → yW D ca A ad s H locs u → decode cX6_seek pc = .ok (.return_, 1) → W p l e R s m args below meth c H locs 0 0 Qf (F0 m pc ls [])) {y0 y1 y2 : Int} (ry0 : (0 ≤ y0 ∧ y0 < 60)) (ry1 : inR y1) (ry2 : inR y2) (hw : yW D ca A ad s H locs u) (hl : lv_has ls 3 [(0, .ref (ad 0 5))]) (h : v_6_seek_96 Q y0 y1 y2 u) : W p l e R s m args below meth c H locs 0 0 Qf (F0 m 96 ls [.int (jI y2), .int (jI y1), .ref (ad 7 y0.toNat)]) := by
  have hx := X.1.1
  have hb := X.1.2.1
  unfold v_6_seek_96 at h
  refine yft_frames X hw ry0 ry1 ry2 dX6_seek_96 h (fun H locs u hw h => ?_)
  exact hret _ _ _ _ _ h hw dX6_seek_97

def v_6_seek_5b (R5 : Int → Int → iST → Prop) (Q : iST → Prop) (x1 : Int) (x2 : Int) (u : iST) : Prop :=
  br (x2 < 0) (
    v_6_seek_104 Q x1 u) (
    rd (u.1 32) (fun v2 => 
    br (v2 ≠ 0) (
      v_6_seek_104 Q x1 u) (
      bd 1 17 (rd (u.2.1 51 (17 * x1 + 1)) (fun v3 => 
      v_0_canLook x2 v3 (fun v4 u => 
      br (v4 = 0) (
        ov (x2 + (-1)) (
        R5 x1 (x2 + (-1)) u)) (
        bd x2 60 (rd (u.2.1 7 x2) (fun v6 => 
        bd 5 17 (rd (u.2.1 51 (17 * x1 + 5)) (fun v7 => 
        v_10_matches v6 v7 (fun v8 u => 
        br (v8 = 0) (
          ov (x2 + (-1)) (
          R5 x1 (x2 + (-1)) u)) (
          v_7_step (fun v10 u => 
          br (v10 = 0) (
            ov (x2 + (-1)) (
            R5 x1 (x2 + (-1)) u)) (
            bd 8 17 (sw (iA u 51 (17 * x1 + 8) x2) (fun u => 
            bd 9 17 (sw (iA u 51 (17 * x1 + 9) 0) (fun u => 
            bd x2 60 (rz (u.2.1 11 x2) (fun v12 => 
            br (v12 = 0) (
              v_6_seek_96 Q x1 3 14 u) (
              v_6_seek_96 Q x1 3 13 u))))))))) u)) u)))))) u)))))
def v_6_seek_5 (Q : iST → Prop) (x1 : Int) (x2 : Int) (u : iST) : Prop := ∀ R5 : Int → Int → iST → Prop, (∀ (x1 : Int) (x2 : Int) (u : iST), v_6_seek_5b R5 Q x1 x2 u → R5 x1 x2 u) → R5 x1 x2 u
set_option maxRecDepth 20000 in
set_option maxHeartbeats 4000000 in
theorem f_6_seek_5 (X : yX RX6 p m c cX6_seek 3 s args D ca ad A) (hRf : 2 ≤ R.frames) (hRl : 50 ≤ R.locals) {Q : iST → Prop} (hret : ∀ (u : iST) (H : Heap) (locs : List Loc) (ls : Array Slot) (pc : Nat), Q u → yW D ca A ad s H locs u → decode cX6_seek pc = .ok (.return_, 1) → W p l e R s m args below meth c H locs 0 0 Qf (F0 m pc ls [])) {x1 x2 : Int} (rx1 : (0 ≤ x1 ∧ x1 < 60)) (rx2 : inR x2) (hw : yW D ca A ad s H locs u) (hl : lv_has ls 3 [(0, .ref (ad 0 5)), (1, .ref (ad 7 x1.toNat)), (2, .int (jI x2))]) (h : v_6_seek_5 Q x1 x2 u) : W p l e R s m args below meth c H locs 0 0 Qf (F0 m 5 ls []) := by
  refine h (fun x1 x2 u => ∀ (H : Heap) (locs : List Loc) (ls : Array Slot), (0 ≤ x1 ∧ x1 < 60) → inR x2 → yW D ca A ad s H locs u → lv_has ls 3 [(0, .ref (ad 0 5)), (1, .ref (ad 7 x1.toNat)), (2, .int (jI x2))] → W p l e R s m args below meth c H locs 0 0 Qf (F0 m 5 ls [])) ?_ H locs ls rx1 rx2 hw hl
  clear h hl hw rx1 rx2
  intro x1 x2 u h H locs ls rx1 rx2 hw hl
  have hR5 : ∀ (x1 : Int) (x2 : Int) (u : iST) (H : Heap) (locs : List Loc) (ls : Array Slot), (0 ≤ x1 ∧ x1 < 60) → inR x2 → yW D ca A ad s H locs u → lv_has ls 3 [(0, .ref (ad 0 5)), (1, .ref (ad 7 x1.toNat)), (2, .int (jI x2))] → (fun (x1 : Int) (x2 : Int) u => ∀ (H : Heap) (locs : List Loc) (ls : Array Slot), (0 ≤ x1 ∧ x1 < 60) → inR x2 → yW D ca A ad s H locs u → lv_has ls 3 [(0, .ref (ad 0 5)), (1, .ref (ad 7 x1.toNat)), (2, .int (jI x2))] → W p l e R s m args below meth c H locs 0 0 Qf (F0 m 5 ls [])) x1 x2 u → W p l e R s m args below meth c H locs 0 0 Qf (F0 m 5 ls []) := fun x1 x2 u H locs ls rx1 rx2 hw hl h => h H locs ls rx1 rx2 hw hl
  have hx := X.1.1
  have hb := X.1.2.1
  unfold v_6_seek_5b at h
  refine lv_iload_n hx hb dX6_seek_5 rfl (lv_at hl 2 rfl) ?_
  refine k_if_lt hx hb rx2 dX6_seek_6 (tgt := 104) rfl h (fun h => ?_) (fun h => ?_)
  · exact f_6_seek_104 X hRf hRl hret rx1 hw (lv_sub hl [0, 1] rfl) h
  · refine lv_aload_n hx hb dX6_seek_9 rfl (lv_at hl 0 rfl) ?_
    refine yg_6_39 X hw dX6_seek_10 ?_
    refine yg_6_77 X hw dX6_seek_13 h (fun v2 rv2 h => ?_)
    refine k_if_ne hx hb rv2 dX6_seek_16 (tgt := 104) rfl h (fun h => ?_) (fun h => ?_)
    · exact f_6_seek_104 X hRf hRl hret rx1 hw (lv_sub hl [0, 1] rfl) h
    · refine lv_aload_n hx hb dX6_seek_19 rfl (lv_at hl 0 rfl) ?_
      refine yg_6_43 X hw dX6_seek_20 ?_
      refine lv_iload_n hx hb dX6_seek_23 rfl (lv_at hl 2 rfl) ?_
      refine lv_aload_n hx hb dX6_seek_24 rfl (lv_at hl 1 rfl) ?_
      refine lv_iconst hx hb dX6_seek_25 (v := jI 1) rfl ?_
      refine yfl_frames X hw rx1 (by decide) dX6_seek_26 h (fun v3 rv3 h => ?_)
      refine ycI (n := 2) (e_0_canLook rx2 rv3 h) 0 0 (r := (RX0, TX0, 21)) rfl yG_6_240 yD_0_canLook X hw rfl yGo_0 (Nat.le_trans (Nat.le_of_ble_eq_true rfl) hRf) (Nat.le_trans (Nat.le_of_ble_eq_true rfl) hRl) rfl hl.1 (Nat.le_of_ble_eq_true rfl) rfl dX6_seek_27 (fun v4 u H locs rv4 h hw => ?_)
      refine k_if_eq hx hb rv4 dX6_seek_30 (tgt := 98) rfl h (fun h => ?_) (fun h => ?_)
      · refine k_iinc (k := 2) hx hb dX6_seek_98 hl rfl (by decide) rfl h (fun ls r5 h hl => ?_)
        have hl : lv_has ls 3 [(2, .int (jI (x2 + (-1)))), (0, .ref (ad 0 5)), (1, .ref (ad 7 x1.toNat))] := hl
        refine lv_goto hx hb dX6_seek_101 (tgt := 5) rfl ?_
        exact hR5 _ _ _ H locs ls rx1 r5 hw (lv_sub hl [1, 2, 0] rfl) h
      · refine lv_aload_n hx hb dX6_seek_33 rfl (lv_at hl 0 rfl) ?_
        refine yg_6_47 X hw dX6_seek_34 ?_
        refine lv_aload_n hx hb dX6_seek_37 rfl (lv_at hl 0 rfl) ?_
        refine yg_6_43 X hw dX6_seek_38 ?_
        refine yg_6_243 X hw dX6_seek_41 ?_
        refine lv_iload_n hx hb dX6_seek_44 rfl (lv_at hl 2 rfl) ?_
        refine yl_7 X hw rx2 dX6_seek_45 h (fun v6 rv6 h => ?_)
        refine lv_aload_n hx hb dX6_seek_46 rfl (lv_at hl 1 rfl) ?_
        refine lv_iconst hx hb dX6_seek_47 (v := jI 5) rfl ?_
        refine yfl_frames X hw rx1 (by decide) dX6_seek_48 h (fun v7 rv7 h => ?_)
        refine ycI (n := 2) (e_10_matches rv6 rv7 h) 10 8 (r := (RX10, TX10, 16)) rfl yG_6_247 yD_10_matches X hw rfl yGo_10 (Nat.le_trans (Nat.le_of_ble_eq_true rfl) hRf) (Nat.le_trans (Nat.le_of_ble_eq_true rfl) hRl) rfl hl.1 (Nat.le_of_ble_eq_true rfl) rfl dX6_seek_49 (fun v8 u H locs rv8 h hw => ?_)
        refine k_if_eq hx hb rv8 dX6_seek_52 (tgt := 98) rfl h (fun h => ?_) (fun h => ?_)
        · refine k_iinc (k := 2) hx hb dX6_seek_98 hl rfl (by decide) rfl h (fun ls r9 h hl => ?_)
          have hl : lv_has ls 3 [(2, .int (jI (x2 + (-1)))), (0, .ref (ad 0 5)), (1, .ref (ad 7 x1.toNat))] := hl
          refine lv_goto hx hb dX6_seek_101 (tgt := 5) rfl ?_
          exact hR5 _ _ _ H locs ls rx1 r9 hw (lv_sub hl [1, 2, 0] rfl) h
        · refine lv_aload_n hx hb dX6_seek_55 rfl (lv_at hl 0 rfl) ?_
          refine yg_6_39 X hw dX6_seek_56 ?_
          refine ycI (n := 0) (e_7_step h) 7 6 (r := (RX7, TX7, 9)) rfl yG_6_155 yD_7_step X hw rfl yGo_7 (Nat.le_trans (Nat.le_of_ble_eq_true rfl) hRf) (Nat.le_trans (Nat.le_of_ble_eq_true rfl) hRl) rfl hl.1 (Nat.le_of_ble_eq_true rfl) rfl dX6_seek_59 (fun v10 u H locs rv10 h hw => ?_)
          refine k_if_eq hx hb rv10 dX6_seek_62 (tgt := 98) rfl h (fun h => ?_) (fun h => ?_)
          · refine k_iinc (k := 2) hx hb dX6_seek_98 hl rfl (by decide) rfl h (fun ls r11 h hl => ?_)
            have hl : lv_has ls 3 [(2, .int (jI (x2 + (-1)))), (0, .ref (ad 0 5)), (1, .ref (ad 7 x1.toNat))] := hl
            refine lv_goto hx hb dX6_seek_101 (tgt := 5) rfl ?_
            exact hR5 _ _ _ H locs ls rx1 r11 hw (lv_sub hl [1, 2, 0] rfl) h
          · refine lv_aload_n hx hb dX6_seek_65 rfl (lv_at hl 1 rfl) ?_
            refine lv_bipush hx hb dX6_seek_66 (v := jI 8) rfl ?_
            refine lv_iload_n hx hb dX6_seek_68 rfl (lv_at hl 2 rfl) ?_
            refine yft_frames X hw rx1 (by decide) rx2 dX6_seek_69 h (fun H locs u hw h => ?_)
            refine lv_aload_n hx hb dX6_seek_70 rfl (lv_at hl 1 rfl) ?_
            refine lv_bipush hx hb dX6_seek_71 (v := jI 9) rfl ?_
            refine lv_iconst hx hb dX6_seek_73 (v := jI 0) rfl ?_
            refine yft_frames X hw rx1 (by decide) (by decide) dX6_seek_74 h (fun H locs u hw h => ?_)
            refine lv_aload_n hx hb dX6_seek_75 rfl (lv_at hl 1 rfl) ?_
            refine lv_iconst hx hb dX6_seek_76 (v := jI 3) rfl ?_
            refine lv_aload_n hx hb dX6_seek_77 rfl (lv_at hl 0 rfl) ?_
            refine yg_6_43 X hw dX6_seek_78 ?_
            refine yg_6_250 X hw dX6_seek_81 ?_
            refine lv_iload_n hx hb dX6_seek_84 rfl (lv_at hl 2 rfl) ?_
            refine yl_11 X hw rx2 dX6_seek_85 h (fun v12 rv12 h => ?_)
            refine k_if_eq hx hb (bz_in rv12) dX6_seek_86 (tgt := 94) rfl h (fun h => ?_) (fun h => ?_)
            · refine lv_bipush hx hb dX6_seek_94 (v := jI 14) rfl ?_
              exact f_6_seek_96 X hRf hRl hret rx1 (by decide) (by decide) hw (lv_sub hl [0] rfl) h
            · refine lv_bipush hx hb dX6_seek_89 (v := jI 13) rfl ?_
              refine lv_goto hx hb dX6_seek_91 (tgt := 96) rfl ?_
              exact f_6_seek_96 X hRf hRl hret rx1 (by decide) (by decide) hw (lv_sub hl [0] rfl) h

def v_6_seek (a0 : Int) (Q : iST → Prop) (u : iST) : Prop :=
  bd 8 17 (rd (u.2.1 51 (17 * a0 + 8)) (fun v1 => 
  v_6_seek_5 Q a0 v1 u))
set_option maxRecDepth 20000 in
set_option maxHeartbeats 4000000 in
theorem f_6_seek_s (X : yX RX6 p m c cX6_seek 3 s args D ca ad A) (hRf : 2 ≤ R.frames) (hRl : 50 ≤ R.locals) {Q : iST → Prop} (hret : ∀ (u : iST) (H : Heap) (locs : List Loc) (ls : Array Slot) (pc : Nat), Q u → yW D ca A ad s H locs u → decode cX6_seek pc = .ok (.return_, 1) → W p l e R s m args below meth c H locs 0 0 Qf (F0 m pc ls [])) {a0 : Int} (ra0 : (0 ≤ a0 ∧ a0 < 60)) (hw : yW D ca A ad s H locs u) (hl : lv_has ls 3 [(0, .ref (ad 0 5)), (1, .ref (ad 7 a0.toNat))]) (h : v_6_seek a0 Q u) : W p l e R s m args below meth c H locs 0 0 Qf (F0 m 0 ls []) := by
  have hx := X.1.1
  have hb := X.1.2.1
  unfold v_6_seek at h
  refine lv_aload_n hx hb dX6_seek_0 rfl (lv_at hl 1 rfl) ?_
  refine lv_bipush hx hb dX6_seek_1 (v := jI 8) rfl ?_
  refine yfl_frames X hw ra0 (by decide) dX6_seek_3 h (fun v1 rv1 h => ?_)
  refine lv_istore_n hx hb dX6_seek_4 rfl hl (by decide) rfl (fun ls hl => ?_)
  have hl : lv_has ls 3 [(2, .int (jI v1)), (0, .ref (ad 0 5)), (1, .ref (ad 7 a0.toNat))] := hl
  exact f_6_seek_5 X hRf hRl hret ra0 rv1 hw (lv_sub hl [1, 2, 0] rfl) h

end
theorem e_6_seek {l : Launch} {a0 : Int} (ra0 : (0 ≤ a0 ∧ a0 < 60)) {Q : iST → Prop} {u : iST} (h : v_6_seek a0 Q u) : yMV l yX6_seek (.code yX6_seek cX6_seek 3 none :: wsN) { frames := 2, cells := 0, slots := 0, locals := 50 } (fun ad => [.ref (ad 0 5), .ref (ad 7 a0.toNat)]) Q u := yMV_of (own := RX6) rfl (by decide +kernel) (fun _ => Nat.le_of_ble_eq_true rfl) (fun X hRf hRl hret hw hl => f_6_seek_s X hRf hRl hret ra0 hw hl h)

/-! ProofHouse$Scribe.clear -/
theorem dX9_clear_0 : decode cX9_clear 0 = .ok (.aload_n 0, 1) := by decide +kernel
theorem dX9_clear_1 : decode cX9_clear 1 = .ok (.iconst 0, 1) := by decide +kernel
theorem dX9_clear_2 : decode cX9_clear 2 = .ok (.putfield 9, 3) := by decide +kernel
theorem dX9_clear_5 : decode cX9_clear 5 = .ok (.return_, 1) := by decide +kernel

section
variable {p : Program} {l : Launch} {e : Env} {R : Room} {s : State} {m : MethodId} {args : Array Value} {below : List Frame} {meth : Method} {c : Code} {H : Heap} {locs : List Loc} {Qf : State → Prop}
variable {ls : Array Slot} {D : va_G} {ca : Nat → ClassId} {A : Nat → Prop} {ad : Nat → Nat → Nat} {u : iST}
def v_9_clear (th : Int) (Q : iST → Prop) (u : iST) : Prop :=
  sw (iA u 54 th 0) (fun u => 
  Q u)
set_option maxRecDepth 20000 in
set_option maxHeartbeats 4000000 in
theorem f_9_clear_s (X : yX RX9 p m c cX9_clear 1 s args D ca ad A) (hRf : 0 ≤ R.frames) (hRl : 0 ≤ R.locals) {Q : iST → Prop} (hret : ∀ (u : iST) (H : Heap) (locs : List Loc) (ls : Array Slot) (pc : Nat), Q u → yW D ca A ad s H locs u → decode cX9_clear pc = .ok (.return_, 1) → W p l e R s m args below meth c H locs 0 0 Qf (F0 m pc ls [])) {th : Int} (rth : (0 ≤ th ∧ th < 3)) (hw : yW D ca A ad s H locs u) (hl : lv_has ls 1 [(0, .ref (ad 10 th.toNat))]) (h : v_9_clear th Q u) : W p l e R s m args below meth c H locs 0 0 Qf (F0 m 0 ls []) := by
  have hx := X.1.1
  have hb := X.1.2.1
  unfold v_9_clear at h
  refine lv_aload_n hx hb dX9_clear_0 rfl (lv_at hl 0 rfl) ?_
  refine lv_iconst hx hb dX9_clear_1 (v := jI 0) rfl ?_
  refine yp_9_9 X hw (by decide) dX9_clear_2 rth h (fun H locs u hw h => ?_)
  exact hret _ _ _ _ _ h hw dX9_clear_5

end
theorem e_9_clear {l : Launch} {th : Int} (rth : (0 ≤ th ∧ th < 3)) {Q : iST → Prop} {u : iST} (h : v_9_clear th Q u) : yMV l yX9_clear (.code yX9_clear cX9_clear 1 none :: wsN) { frames := 0, cells := 0, slots := 0, locals := 0 } (fun ad => [.ref (ad 10 th.toNat)]) Q u := yMV_of (own := RX9) rfl (by decide +kernel) (fun _ => Nat.le_of_ble_eq_true rfl) (fun X hRf hRl hret hw hl => f_9_clear_s X hRf hRl hret rth hw hl h)

/-! ProofHouse$Scribe.put -/
theorem dX9_put_0 : decode cX9_put 0 = .ok (.aload_n 0, 1) := by decide +kernel
theorem dX9_put_1 : decode cX9_put 1 = .ok (.getfield 9, 3) := by decide +kernel
theorem dX9_put_4 : decode cX9_put 4 = .ok (.aload_n 0, 1) := by decide +kernel
theorem dX9_put_5 : decode cX9_put 5 = .ok (.getfield 25, 3) := by decide +kernel
theorem dX9_put_8 : decode cX9_put 8 = .ok (.arraylength, 1) := by decide +kernel
theorem dX9_put_9 : decode cX9_put 9 = .ok (.if_icmp .ge 23, 3) := by decide +kernel
theorem dX9_put_12 : decode cX9_put 12 = .ok (.aload_n 0, 1) := by decide +kernel
theorem dX9_put_13 : decode cX9_put 13 = .ok (.getfield 25, 3) := by decide +kernel
theorem dX9_put_16 : decode cX9_put 16 = .ok (.aload_n 0, 1) := by decide +kernel
theorem dX9_put_17 : decode cX9_put 17 = .ok (.getfield 9, 3) := by decide +kernel
theorem dX9_put_20 : decode cX9_put 20 = .ok (.iload_n 1, 1) := by decide +kernel
theorem dX9_put_21 : decode cX9_put 21 = .ok (.castore, 1) := by decide +kernel
theorem dX9_put_22 : decode cX9_put 22 = .ok (.aload_n 0, 1) := by decide +kernel
theorem dX9_put_23 : decode cX9_put 23 = .ok (.dup, 1) := by decide +kernel
theorem dX9_put_24 : decode cX9_put 24 = .ok (.getfield 9, 3) := by decide +kernel
theorem dX9_put_27 : decode cX9_put 27 = .ok (.iconst 1, 1) := by decide +kernel
theorem dX9_put_28 : decode cX9_put 28 = .ok (.iadd, 1) := by decide +kernel
theorem dX9_put_29 : decode cX9_put 29 = .ok (.putfield 9, 3) := by decide +kernel
theorem dX9_put_32 : decode cX9_put 32 = .ok (.return_, 1) := by decide +kernel

section
variable {p : Program} {l : Launch} {e : Env} {R : Room} {s : State} {m : MethodId} {args : Array Value} {below : List Frame} {meth : Method} {c : Code} {H : Heap} {locs : List Loc} {Qf : State → Prop}
variable {ls : Array Slot} {D : va_G} {ca : Nat → ClassId} {A : Nat → Prop} {ad : Nat → Nat → Nat} {u : iST}
def v_9_put (th : Int) (a0 : Int) (Q : iST → Prop) (u : iST) : Prop :=
  rd (u.2.1 54 th) (fun v1 => 
  br ((slenI th) ≤ v1) (
    Q u) (
    rd (u.2.1 54 th) (fun v2 => 
    hc a0 (bd v2 (slenI th) (sw (iA u 55 (2000 * th + v2) a0) (fun u => 
    rd (u.2.1 54 th) (fun v3 => 
    ov (v3 + 1) (
    sw (iA u 54 th (v3 + 1)) (fun u => 
    Q u)))))))))
set_option maxRecDepth 20000 in
set_option maxHeartbeats 4000000 in
theorem f_9_put_s (X : yX RX9 p m c cX9_put 2 s args D ca ad A) (hRf : 0 ≤ R.frames) (hRl : 0 ≤ R.locals) {Q : iST → Prop} (hret : ∀ (u : iST) (H : Heap) (locs : List Loc) (ls : Array Slot) (pc : Nat), Q u → yW D ca A ad s H locs u → decode cX9_put pc = .ok (.return_, 1) → W p l e R s m args below meth c H locs 0 0 Qf (F0 m pc ls [])) {th a0 : Int} (rth : (0 ≤ th ∧ th < 3)) (ra0 : inR a0) (hw : yW D ca A ad s H locs u) (hl : lv_has ls 2 [(0, .ref (ad 10 th.toNat)), (1, .int (jI a0))]) (h : v_9_put th a0 Q u) : W p l e R s m args below meth c H locs 0 0 Qf (F0 m 0 ls []) := by
  have hx := X.1.1
  have hb := X.1.2.1
  unfold v_9_put at h
  refine lv_aload_n hx hb dX9_put_0 rfl (lv_at hl 0 rfl) ?_
  refine yg_9_9 X hw dX9_put_1 rth h (fun v1 rv1 h => ?_)
  refine lv_aload_n hx hb dX9_put_4 rfl (lv_at hl 0 rfl) ?_
  refine yg_9_25 X hw dX9_put_5 rth ?_
  refine yfn_letters X hw rth dX9_put_8 ?_
  refine k_icmp_ge hx hb rv1 (slenI_in th) dX9_put_9 (tgt := 32) rfl h (fun h => ?_) (fun h => ?_)
  · exact hret _ _ _ _ _ h hw dX9_put_32
  · refine lv_aload_n hx hb dX9_put_12 rfl (lv_at hl 0 rfl) ?_
    refine yg_9_25 X hw dX9_put_13 rth ?_
    refine lv_aload_n hx hb dX9_put_16 rfl (lv_at hl 0 rfl) ?_
    refine yg_9_9 X hw dX9_put_17 rth h (fun v2 rv2 h => ?_)
    refine lv_iload_n hx hb dX9_put_20 rfl (lv_at hl 1 rfl) ?_
    refine yft_letters X hw rth rv2 dX9_put_21 h (fun H locs u hw h => ?_)
    refine lv_aload_n hx hb dX9_put_22 rfl (lv_at hl 0 rfl) ?_
    refine lv_dup hx hb dX9_put_23 rfl ?_
    refine yg_9_9 X hw dX9_put_24 rth h (fun v3 rv3 h => ?_)
    refine lv_iconst hx hb dX9_put_27 (v := jI 1) rfl ?_
    refine k_iadd hx hb dX9_put_28 h (fun r4 h => ?_)
    refine yp_9_9 X hw r4 dX9_put_29 rth h (fun H locs u hw h => ?_)
    exact hret _ _ _ _ _ h hw dX9_put_32

end
theorem e_9_put {l : Launch} {th : Int} {a0 : Int} (rth : (0 ≤ th ∧ th < 3)) (ra0 : inR a0) {Q : iST → Prop} {u : iST} (h : v_9_put th a0 Q u) : yMV l yX9_put (.code yX9_put cX9_put 2 none :: wsN) { frames := 0, cells := 0, slots := 0, locals := 0 } (fun ad => [.ref (ad 10 th.toNat), .int (jI a0)]) Q u := yMV_of (own := RX9) rfl (by decide +kernel) (fun _ => Nat.le_of_ble_eq_true rfl) (fun X hRf hRl hret hw hl => f_9_put_s X hRf hRl hret rth ra0 hw hl h)

/-! ProofHouse$Room.cellOf -/
theorem dX7_cellOf_0 : decode cX7_cellOf 0 = .ok (.iload_n 1, 1) := by decide +kernel
theorem dX7_cellOf_1 : decode cX7_cellOf 1 = .ok (.ifCond .lt 20, 3) := by decide +kernel
theorem dX7_cellOf_4 : decode cX7_cellOf 4 = .ok (.iload_n 1, 1) := by decide +kernel
theorem dX7_cellOf_5 : decode cX7_cellOf 5 = .ok (.aload_n 0, 1) := by decide +kernel
theorem dX7_cellOf_6 : decode cX7_cellOf 6 = .ok (.getfield 30, 3) := by decide +kernel
theorem dX7_cellOf_9 : decode cX7_cellOf 9 = .ok (.if_icmp .ge 12, 3) := by decide +kernel
theorem dX7_cellOf_12 : decode cX7_cellOf 12 = .ok (.aload_n 0, 1) := by decide +kernel
theorem dX7_cellOf_13 : decode cX7_cellOf 13 = .ok (.getfield 12, 3) := by decide +kernel
theorem dX7_cellOf_16 : decode cX7_cellOf 16 = .ok (.iload_n 1, 1) := by decide +kernel
theorem dX7_cellOf_17 : decode cX7_cellOf 17 = .ok (.laload, 1) := by decide +kernel
theorem dX7_cellOf_18 : decode cX7_cellOf 18 = .ok (.goto 6, 3) := by decide +kernel
theorem dX7_cellOf_21 : decode cX7_cellOf 21 = .ok (.ldc2_w 69, 3) := by decide +kernel
theorem dX7_cellOf_24 : decode cX7_cellOf 24 = .ok (.lreturn, 1) := by decide +kernel

section
variable {p : Program} {l : Launch} {e : Env} {R : Room} {s : State} {m : MethodId} {args : Array Value} {below : List Frame} {meth : Method} {c : Code} {H : Heap} {locs : List Loc} {Qf : State → Prop}
variable {ls : Array Slot} {D : va_G} {ca : Nat → ClassId} {A : Nat → Prop} {ad : Nat → Nat → Nat} {u : iST}
def v_7_cellOf (a0 : Int) (Q : Int → iST → Prop) (u : iST) : Prop :=
  br (a0 < 0) (
    Q 4611686018427387904 u) (
    rd (u.1 29) (fun v1 => 
    br (v1 ≤ a0) (
      Q 4611686018427387904 u) (
      bd a0 160000 (rl (u.2.2 a0) (fun v2 => 
      Q v2 u)))))
set_option maxRecDepth 20000 in
set_option maxHeartbeats 4000000 in
theorem f_7_cellOf_s (X : yX RX7 p m c cX7_cellOf 2 s args D ca ad A) (hRf : 0 ≤ R.frames) (hRl : 0 ≤ R.locals) {Q : Int → iST → Prop} (hret : ∀ (v : Int) (u : iST) (H : Heap) (locs : List Loc) (ls : Array Slot) (pc : Nat), inL v → Q v u → yW D ca A ad s H locs u → decode cX7_cellOf pc = .ok (.lreturn, 1) → W p l e R s m args below meth c H locs 0 0 Qf (F0 m pc ls [.long (jL v)])) {a0 : Int} (ra0 : inR a0) (hw : yW D ca A ad s H locs u) (hl : lv_has ls 2 [(0, .ref (ad 0 6)), (1, .int (jI a0))]) (h : v_7_cellOf a0 Q u) : W p l e R s m args below meth c H locs 0 0 Qf (F0 m 0 ls []) := by
  have hx := X.1.1
  have hb := X.1.2.1
  unfold v_7_cellOf at h
  refine lv_iload_n hx hb dX7_cellOf_0 rfl (lv_at hl 1 rfl) ?_
  refine k_if_lt hx hb ra0 dX7_cellOf_1 (tgt := 21) rfl h (fun h => ?_) (fun h => ?_)
  · refine yld2 69 yK_7_69 X dX7_cellOf_21 ?_
    exact hret _ _ _ _ _ _ (by decide) h hw dX7_cellOf_24
  · refine lv_iload_n hx hb dX7_cellOf_4 rfl (lv_at hl 1 rfl) ?_
    refine lv_aload_n hx hb dX7_cellOf_5 rfl (lv_at hl 0 rfl) ?_
    refine yg_7_30 X hw dX7_cellOf_6 h (fun v1 rv1 h => ?_)
    refine k_icmp_ge hx hb ra0 rv1 dX7_cellOf_9 (tgt := 21) rfl h (fun h => ?_) (fun h => ?_)
    · refine yld2 69 yK_7_69 X dX7_cellOf_21 ?_
      exact hret _ _ _ _ _ _ (by decide) h hw dX7_cellOf_24
    · refine lv_aload_n hx hb dX7_cellOf_12 rfl (lv_at hl 0 rfl) ?_
      refine yg_7_12 X hw dX7_cellOf_13 ?_
      refine lv_iload_n hx hb dX7_cellOf_16 rfl (lv_at hl 1 rfl) ?_
      refine yJl X hw ra0 dX7_cellOf_17 h (fun v2 rv2 h => ?_)
      refine lv_goto hx hb dX7_cellOf_18 (tgt := 24) rfl ?_
      exact hret _ _ _ _ _ _ rv2 h hw dX7_cellOf_24

end
theorem e_7_cellOf {l : Launch} {a0 : Int} (ra0 : inR a0) {Q : Int → iST → Prop} {u : iST} (h : v_7_cellOf a0 Q u) : yML l yX7_cellOf (.code yX7_cellOf cX7_cellOf 2 (some .long) :: wsN) { frames := 0, cells := 0, slots := 0, locals := 0 } (fun ad => [.ref (ad 0 6), .int (jI a0)]) Q u := yML_of (own := RX7) rfl (by decide +kernel) (fun _ => Nat.le_of_ble_eq_true rfl) (fun X hRf hRl hret hw hl => f_7_cellOf_s X hRf hRl hret ra0 hw hl h)

/-! ProofHouse$Scribe.putAtom -/
theorem dX9_putAtom_0 : decode cX9_putAtom 0 = .ok (.lload_n 1, 1) := by decide +kernel
theorem dX9_putAtom_1 : decode cX9_putAtom 1 = .ok (.ldc2_w 61, 3) := by decide +kernel
theorem dX9_putAtom_4 : decode cX9_putAtom 4 = .ok (.lcmp, 1) := by decide +kernel
theorem dX9_putAtom_5 : decode cX9_putAtom 5 = .ok (.ifCond .ge 7, 3) := by decide +kernel
theorem dX9_putAtom_8 : decode cX9_putAtom 8 = .ok (.iconst 1, 1) := by decide +kernel
theorem dX9_putAtom_9 : decode cX9_putAtom 9 = .ok (.goto 4, 3) := by decide +kernel
theorem dX9_putAtom_12 : decode cX9_putAtom 12 = .ok (.iconst 0, 1) := by decide +kernel
theorem dX9_putAtom_13 : decode cX9_putAtom 13 = .ok (.istore_n 3, 1) := by decide +kernel
theorem dX9_putAtom_14 : decode cX9_putAtom 14 = .ok (.iload_n 3, 1) := by decide +kernel
theorem dX9_putAtom_15 : decode cX9_putAtom 15 = .ok (.ifCond .eq 8, 3) := by decide +kernel
theorem dX9_putAtom_18 : decode cX9_putAtom 18 = .ok (.bipush 10, 2) := by decide +kernel
theorem dX9_putAtom_20 : decode cX9_putAtom 20 = .ok (.goto 5, 3) := by decide +kernel
theorem dX9_putAtom_23 : decode cX9_putAtom 23 = .ok (.bipush 47, 2) := by decide +kernel
theorem dX9_putAtom_25 : decode cX9_putAtom 25 = .ok (.istore 4, 2) := by decide +kernel
theorem dX9_putAtom_27 : decode cX9_putAtom 27 = .ok (.lload_n 1, 1) := by decide +kernel
theorem dX9_putAtom_28 : decode cX9_putAtom 28 = .ok (.ldc2_w 63, 3) := by decide +kernel
theorem dX9_putAtom_31 : decode cX9_putAtom 31 = .ok (.land, 1) := by decide +kernel
theorem dX9_putAtom_32 : decode cX9_putAtom 32 = .ok (.lstore 5, 2) := by decide +kernel
theorem dX9_putAtom_34 : decode cX9_putAtom 34 = .ok (.iconst 1, 1) := by decide +kernel
theorem dX9_putAtom_35 : decode cX9_putAtom 35 = .ok (.istore 7, 2) := by decide +kernel
theorem dX9_putAtom_37 : decode cX9_putAtom 37 = .ok (.lload 5, 2) := by decide +kernel
theorem dX9_putAtom_39 : decode cX9_putAtom 39 = .ok (.iload 4, 2) := by decide +kernel
theorem dX9_putAtom_41 : decode cX9_putAtom 41 = .ok (.i2l, 1) := by decide +kernel
theorem dX9_putAtom_42 : decode cX9_putAtom 42 = .ok (.ldiv, 1) := by decide +kernel
theorem dX9_putAtom_43 : decode cX9_putAtom 43 = .ok (.lstore 8, 2) := by decide +kernel
theorem dX9_putAtom_45 : decode cX9_putAtom 45 = .ok (.lload 8, 2) := by decide +kernel
theorem dX9_putAtom_47 : decode cX9_putAtom 47 = .ok (.lconst 0, 1) := by decide +kernel
theorem dX9_putAtom_48 : decode cX9_putAtom 48 = .ok (.lcmp, 1) := by decide +kernel
theorem dX9_putAtom_49 : decode cX9_putAtom 49 = .ok (.ifCond .le 17, 3) := by decide +kernel
theorem dX9_putAtom_52 : decode cX9_putAtom 52 = .ok (.iinc 7 1, 3) := by decide +kernel
theorem dX9_putAtom_55 : decode cX9_putAtom 55 = .ok (.lload 8, 2) := by decide +kernel
theorem dX9_putAtom_57 : decode cX9_putAtom 57 = .ok (.iload 4, 2) := by decide +kernel
theorem dX9_putAtom_59 : decode cX9_putAtom 59 = .ok (.i2l, 1) := by decide +kernel
theorem dX9_putAtom_60 : decode cX9_putAtom 60 = .ok (.ldiv, 1) := by decide +kernel
theorem dX9_putAtom_61 : decode cX9_putAtom 61 = .ok (.lstore 8, 2) := by decide +kernel
theorem dX9_putAtom_63 : decode cX9_putAtom 63 = .ok (.goto (-18), 3) := by decide +kernel
theorem dX9_putAtom_66 : decode cX9_putAtom 66 = .ok (.iload 7, 2) := by decide +kernel
theorem dX9_putAtom_68 : decode cX9_putAtom 68 = .ok (.iconst 1, 1) := by decide +kernel
theorem dX9_putAtom_69 : decode cX9_putAtom 69 = .ok (.isub, 1) := by decide +kernel
theorem dX9_putAtom_70 : decode cX9_putAtom 70 = .ok (.istore 8, 2) := by decide +kernel
theorem dX9_putAtom_72 : decode cX9_putAtom 72 = .ok (.iload 8, 2) := by decide +kernel
theorem dX9_putAtom_74 : decode cX9_putAtom 74 = .ok (.ifCond .lt 73, 3) := by decide +kernel
theorem dX9_putAtom_77 : decode cX9_putAtom 77 = .ok (.lload 5, 2) := by decide +kernel
theorem dX9_putAtom_79 : decode cX9_putAtom 79 = .ok (.iload 4, 2) := by decide +kernel
theorem dX9_putAtom_81 : decode cX9_putAtom 81 = .ok (.i2l, 1) := by decide +kernel
theorem dX9_putAtom_82 : decode cX9_putAtom 82 = .ok (.lrem, 1) := by decide +kernel
theorem dX9_putAtom_83 : decode cX9_putAtom 83 = .ok (.l2i, 1) := by decide +kernel
theorem dX9_putAtom_84 : decode cX9_putAtom 84 = .ok (.istore 9, 2) := by decide +kernel
theorem dX9_putAtom_86 : decode cX9_putAtom 86 = .ok (.lload 5, 2) := by decide +kernel
theorem dX9_putAtom_88 : decode cX9_putAtom 88 = .ok (.iload 4, 2) := by decide +kernel
theorem dX9_putAtom_90 : decode cX9_putAtom 90 = .ok (.i2l, 1) := by decide +kernel
theorem dX9_putAtom_91 : decode cX9_putAtom 91 = .ok (.ldiv, 1) := by decide +kernel
theorem dX9_putAtom_92 : decode cX9_putAtom 92 = .ok (.lstore 5, 2) := by decide +kernel
theorem dX9_putAtom_94 : decode cX9_putAtom 94 = .ok (.aload_n 0, 1) := by decide +kernel
theorem dX9_putAtom_95 : decode cX9_putAtom 95 = .ok (.getfield 9, 3) := by decide +kernel
theorem dX9_putAtom_98 : decode cX9_putAtom 98 = .ok (.iload 8, 2) := by decide +kernel
theorem dX9_putAtom_100 : decode cX9_putAtom 100 = .ok (.iadd, 1) := by decide +kernel
theorem dX9_putAtom_101 : decode cX9_putAtom 101 = .ok (.aload_n 0, 1) := by decide +kernel
theorem dX9_putAtom_102 : decode cX9_putAtom 102 = .ok (.getfield 25, 3) := by decide +kernel
theorem dX9_putAtom_105 : decode cX9_putAtom 105 = .ok (.arraylength, 1) := by decide +kernel
theorem dX9_putAtom_106 : decode cX9_putAtom 106 = .ok (.if_icmp .ge 35, 3) := by decide +kernel
theorem dX9_putAtom_109 : decode cX9_putAtom 109 = .ok (.aload_n 0, 1) := by decide +kernel
theorem dX9_putAtom_110 : decode cX9_putAtom 110 = .ok (.getfield 25, 3) := by decide +kernel
theorem dX9_putAtom_113 : decode cX9_putAtom 113 = .ok (.aload_n 0, 1) := by decide +kernel
theorem dX9_putAtom_114 : decode cX9_putAtom 114 = .ok (.getfield 9, 3) := by decide +kernel
theorem dX9_putAtom_117 : decode cX9_putAtom 117 = .ok (.iload 8, 2) := by decide +kernel
theorem dX9_putAtom_119 : decode cX9_putAtom 119 = .ok (.iadd, 1) := by decide +kernel
theorem dX9_putAtom_120 : decode cX9_putAtom 120 = .ok (.iload_n 3, 1) := by decide +kernel
theorem dX9_putAtom_121 : decode cX9_putAtom 121 = .ok (.ifCond .eq 12, 3) := by decide +kernel
theorem dX9_putAtom_124 : decode cX9_putAtom 124 = .ok (.bipush 48, 2) := by decide +kernel
theorem dX9_putAtom_126 : decode cX9_putAtom 126 = .ok (.iload 9, 2) := by decide +kernel
theorem dX9_putAtom_128 : decode cX9_putAtom 128 = .ok (.iadd, 1) := by decide +kernel
theorem dX9_putAtom_129 : decode cX9_putAtom 129 = .ok (.i2c, 1) := by decide +kernel
theorem dX9_putAtom_130 : decode cX9_putAtom 130 = .ok (.goto 10, 3) := by decide +kernel
theorem dX9_putAtom_133 : decode cX9_putAtom 133 = .ok (.ldc 65, 2) := by decide +kernel
theorem dX9_putAtom_135 : decode cX9_putAtom 135 = .ok (.iload 9, 2) := by decide +kernel
theorem dX9_putAtom_137 : decode cX9_putAtom 137 = .ok (.invokevirtual 67, 3) := by decide +kernel
theorem dX9_putAtom_140 : decode cX9_putAtom 140 = .ok (.castore, 1) := by decide +kernel
theorem dX9_putAtom_141 : decode cX9_putAtom 141 = .ok (.iinc 8 (-1), 3) := by decide +kernel
theorem dX9_putAtom_144 : decode cX9_putAtom 144 = .ok (.goto (-72), 3) := by decide +kernel
theorem dX9_putAtom_147 : decode cX9_putAtom 147 = .ok (.aload_n 0, 1) := by decide +kernel
theorem dX9_putAtom_148 : decode cX9_putAtom 148 = .ok (.aload_n 0, 1) := by decide +kernel
theorem dX9_putAtom_149 : decode cX9_putAtom 149 = .ok (.getfield 25, 3) := by decide +kernel
theorem dX9_putAtom_152 : decode cX9_putAtom 152 = .ok (.arraylength, 1) := by decide +kernel
theorem dX9_putAtom_153 : decode cX9_putAtom 153 = .ok (.aload_n 0, 1) := by decide +kernel
theorem dX9_putAtom_154 : decode cX9_putAtom 154 = .ok (.getfield 9, 3) := by decide +kernel
theorem dX9_putAtom_157 : decode cX9_putAtom 157 = .ok (.iload 7, 2) := by decide +kernel
theorem dX9_putAtom_159 : decode cX9_putAtom 159 = .ok (.iadd, 1) := by decide +kernel
theorem dX9_putAtom_160 : decode cX9_putAtom 160 = .ok (.invokestatic 73, 3) := by decide +kernel
theorem dX9_putAtom_163 : decode cX9_putAtom 163 = .ok (.putfield 9, 3) := by decide +kernel
theorem dX9_putAtom_166 : decode cX9_putAtom 166 = .ok (.return_, 1) := by decide +kernel

section
variable {p : Program} {l : Launch} {e : Env} {R : Room} {s : State} {m : MethodId} {args : Array Value} {below : List Frame} {meth : Method} {c : Code} {H : Heap} {locs : List Loc} {Qf : State → Prop}
variable {ls : Array Slot} {D : va_G} {ca : Nat → ClassId} {A : Nat → Prop} {ad : Nat → Nat → Nat} {u : iST}
def v_9_putAtom_72b (R72 : Int → Int → Int → Int → Int → Int → iST → Prop) (Q : iST → Prop) (x0 : Int) (x3 : Int) (x4 : Int) (x5 : Int) (x7 : Int) (x8 : Int) (u : iST) : Prop :=
  br (x8 < 0) (
    rd (u.2.1 54 x0) (fun v5 => 
    ov (v5 + x7) (
    rd (if (v5 + x7) < (slenI x0) then (v5 + x7) else (slenI x0)) (fun v7 => 
    sw (iA u 54 x0 v7) (fun u => 
    Q u))))) (
    (0 : Int) < x4 ∧ (
    rd (wl2i (Int.tmod x5 x4)) (fun v10 => 
    (0 : Int) < x4 ∧ (
    rd (u.2.1 54 x0) (fun v13 => 
    ov (v13 + x8) (
    br ((slenI x0) ≤ (v13 + x8)) (
      ov (x8 + (-1)) (
      R72 x0 x3 x4 (Int.tdiv x5 x4) x7 (x8 + (-1)) u)) (
      rd (u.2.1 54 x0) (fun v16 => 
      ov (v16 + x8) (
      br (x3 = 0) (
        bd v10 47 (rk v10 (fun v18 => 
        hc v18 (bd (v16 + x8) (slenI x0) (sw (iA u 55 (2000 * x0 + (v16 + x8)) v18) (fun u => 
        ov (x8 + (-1)) (
        R72 x0 x3 x4 (Int.tdiv x5 x4) x7 (x8 + (-1)) u))))))) (
        ov (48 + v10) (
        rd (wi2c (48 + v10)) (fun v21 => 
        hc v21 (bd (v16 + x8) (slenI x0) (sw (iA u 55 (2000 * x0 + (v16 + x8)) v21) (fun u => 
        ov (x8 + (-1)) (
        R72 x0 x3 x4 (Int.tdiv x5 x4) x7 (x8 + (-1)) u))))))))))))))))
def v_9_putAtom_72 (Q : iST → Prop) (x0 : Int) (x3 : Int) (x4 : Int) (x5 : Int) (x7 : Int) (x8 : Int) (u : iST) : Prop := ∀ R72 : Int → Int → Int → Int → Int → Int → iST → Prop, (∀ (x0 : Int) (x3 : Int) (x4 : Int) (x5 : Int) (x7 : Int) (x8 : Int) (u : iST), v_9_putAtom_72b R72 Q x0 x3 x4 x5 x7 x8 u → R72 x0 x3 x4 x5 x7 x8 u) → R72 x0 x3 x4 x5 x7 x8 u
set_option maxRecDepth 20000 in
set_option maxHeartbeats 4000000 in
theorem f_9_putAtom_72 (X : yX RX9 p m c cX9_putAtom 10 s args D ca ad A) (hRf : 6 ≤ R.frames) (hRl : 200 ≤ R.locals) {Q : iST → Prop} (hret : ∀ (u : iST) (H : Heap) (locs : List Loc) (ls : Array Slot) (pc : Nat), Q u → yW D ca A ad s H locs u → decode cX9_putAtom pc = .ok (.return_, 1) → W p l e R s m args below meth c H locs 0 0 Qf (F0 m pc ls [])) {x0 x3 x4 x5 x7 x8 : Int} (rx0 : (0 ≤ x0 ∧ x0 < 3)) (rx3 : inR x3) (rx4 : inR x4) (rx5 : inL x5) (rx7 : inR x7) (rx8 : inR x8) (hw : yW D ca A ad s H locs u) (hl : lv_has ls 10 [(0, .ref (ad 10 x0.toNat)), (3, .int (jI x3)), (4, .int (jI x4)), (5, .long (jL x5)), (7, .int (jI x7)), (8, .int (jI x8))]) (h : v_9_putAtom_72 Q x0 x3 x4 x5 x7 x8 u) : W p l e R s m args below meth c H locs 0 0 Qf (F0 m 72 ls []) := by
  refine h (fun x0 x3 x4 x5 x7 x8 u => ∀ (H : Heap) (locs : List Loc) (ls : Array Slot), (0 ≤ x0 ∧ x0 < 3) → inR x3 → inR x4 → inL x5 → inR x7 → inR x8 → yW D ca A ad s H locs u → lv_has ls 10 [(0, .ref (ad 10 x0.toNat)), (3, .int (jI x3)), (4, .int (jI x4)), (5, .long (jL x5)), (7, .int (jI x7)), (8, .int (jI x8))] → W p l e R s m args below meth c H locs 0 0 Qf (F0 m 72 ls [])) ?_ H locs ls rx0 rx3 rx4 rx5 rx7 rx8 hw hl
  clear h hl hw rx0 rx3 rx4 rx5 rx7 rx8
  intro x0 x3 x4 x5 x7 x8 u h H locs ls rx0 rx3 rx4 rx5 rx7 rx8 hw hl
  have hR72 : ∀ (x0 : Int) (x3 : Int) (x4 : Int) (x5 : Int) (x7 : Int) (x8 : Int) (u : iST) (H : Heap) (locs : List Loc) (ls : Array Slot), (0 ≤ x0 ∧ x0 < 3) → inR x3 → inR x4 → inL x5 → inR x7 → inR x8 → yW D ca A ad s H locs u → lv_has ls 10 [(0, .ref (ad 10 x0.toNat)), (3, .int (jI x3)), (4, .int (jI x4)), (5, .long (jL x5)), (7, .int (jI x7)), (8, .int (jI x8))] → (fun (x0 : Int) (x3 : Int) (x4 : Int) (x5 : Int) (x7 : Int) (x8 : Int) u => ∀ (H : Heap) (locs : List Loc) (ls : Array Slot), (0 ≤ x0 ∧ x0 < 3) → inR x3 → inR x4 → inL x5 → inR x7 → inR x8 → yW D ca A ad s H locs u → lv_has ls 10 [(0, .ref (ad 10 x0.toNat)), (3, .int (jI x3)), (4, .int (jI x4)), (5, .long (jL x5)), (7, .int (jI x7)), (8, .int (jI x8))] → W p l e R s m args below meth c H locs 0 0 Qf (F0 m 72 ls [])) x0 x3 x4 x5 x7 x8 u → W p l e R s m args below meth c H locs 0 0 Qf (F0 m 72 ls []) := fun x0 x3 x4 x5 x7 x8 u H locs ls rx0 rx3 rx4 rx5 rx7 rx8 hw hl h => h H locs ls rx0 rx3 rx4 rx5 rx7 rx8 hw hl
  have hx := X.1.1
  have hb := X.1.2.1
  unfold v_9_putAtom_72b at h
  refine lv_iload hx hb dX9_putAtom_72 (lv_at hl 5 rfl) ?_
  refine k_if_lt hx hb rx8 dX9_putAtom_74 (tgt := 147) rfl h (fun h => ?_) (fun h => ?_)
  · refine lv_aload_n hx hb dX9_putAtom_147 rfl (lv_at hl 0 rfl) ?_
    refine lv_aload_n hx hb dX9_putAtom_148 rfl (lv_at hl 0 rfl) ?_
    refine yg_9_25 X hw dX9_putAtom_149 rx0 ?_
    refine yfn_letters X hw rx0 dX9_putAtom_152 ?_
    refine lv_aload_n hx hb dX9_putAtom_153 rfl (lv_at hl 0 rfl) ?_
    refine yg_9_9 X hw dX9_putAtom_154 rx0 h (fun v5 rv5 h => ?_)
    refine lv_iload hx hb dX9_putAtom_157 (lv_at hl 4 rfl) ?_
    refine k_iadd hx hb dX9_putAtom_159 h (fun r6 h => ?_)
    refine yMmin 73 (slenI_in x0) r6 yJ_7 X hl.1 (Nat.le_trans (Nat.le_of_ble_eq_true rfl) hRf) (Nat.le_trans (Nat.le_of_ble_eq_true rfl) hRl) dX9_putAtom_160 h (fun v7 rv7 h => ?_)
    refine yp_9_9 X hw rv7 dX9_putAtom_163 rx0 h (fun H locs u hw h => ?_)
    exact hret _ _ _ _ _ h hw dX9_putAtom_166
  · refine lv_lload hx hb dX9_putAtom_77 (lv_at hl 3 rfl) ?_
    refine lv_iload hx hb dX9_putAtom_79 (lv_at hl 2 rfl) ?_
    refine k_i2l hx hb rx4 dX9_putAtom_81 (fun r8 => ?_)
    refine k_lrem hx hb rx5 r8 dX9_putAtom_82 h (fun r9 h => ?_)
    refine k_l2i hx hb dX9_putAtom_83 h (fun v10 rv10 h => ?_)
    refine lv_istore hx hb dX9_putAtom_84 hl (by decide) rfl (fun ls hl => ?_)
    have hl : lv_has ls 10 [(9, .int (jI v10)), (0, .ref (ad 10 x0.toNat)), (3, .int (jI x3)), (4, .int (jI x4)), (5, .long (jL x5)), (7, .int (jI x7)), (8, .int (jI x8))] := hl
    refine lv_lload hx hb dX9_putAtom_86 (lv_at hl 4 rfl) ?_
    refine lv_iload hx hb dX9_putAtom_88 (lv_at hl 3 rfl) ?_
    refine k_i2l hx hb rx4 dX9_putAtom_90 (fun r11 => ?_)
    refine k_ldiv hx hb rx5 r11 dX9_putAtom_91 h (fun r12 h => ?_)
    refine lv_lstore hx hb dX9_putAtom_92 hl (by decide) rfl (fun ls hl => ?_)
    have hl : lv_has ls 10 [(5, .long (jL (Int.tdiv x5 x4))), (9, .int (jI v10)), (0, .ref (ad 10 x0.toNat)), (3, .int (jI x3)), (4, .int (jI x4)), (7, .int (jI x7)), (8, .int (jI x8))] := hl
    refine lv_aload_n hx hb dX9_putAtom_94 rfl (lv_at hl 2 rfl) ?_
    refine yg_9_9 X hw dX9_putAtom_95 rx0 h (fun v13 rv13 h => ?_)
    refine lv_iload hx hb dX9_putAtom_98 (lv_at hl 6 rfl) ?_
    refine k_iadd hx hb dX9_putAtom_100 h (fun r14 h => ?_)
    refine lv_aload_n hx hb dX9_putAtom_101 rfl (lv_at hl 2 rfl) ?_
    refine yg_9_25 X hw dX9_putAtom_102 rx0 ?_
    refine yfn_letters X hw rx0 dX9_putAtom_105 ?_
    refine k_icmp_ge hx hb r14 (slenI_in x0) dX9_putAtom_106 (tgt := 141) rfl h (fun h => ?_) (fun h => ?_)
    · refine k_iinc (k := 6) hx hb dX9_putAtom_141 hl rfl (by decide) rfl h (fun ls r15 h hl => ?_)
      have hl : lv_has ls 10 [(8, .int (jI (x8 + (-1)))), (5, .long (jL (Int.tdiv x5 x4))), (9, .int (jI v10)), (0, .ref (ad 10 x0.toNat)), (3, .int (jI x3)), (4, .int (jI x4)), (7, .int (jI x7))] := hl
      refine lv_goto hx hb dX9_putAtom_144 (tgt := 72) rfl ?_
      exact hR72 _ _ _ _ _ _ _ H locs ls rx0 rx3 rx4 r12 rx7 r15 hw (lv_sub hl [3, 4, 5, 1, 6, 0] rfl) h
    · refine lv_aload_n hx hb dX9_putAtom_109 rfl (lv_at hl 2 rfl) ?_
      refine yg_9_25 X hw dX9_putAtom_110 rx0 ?_
      refine lv_aload_n hx hb dX9_putAtom_113 rfl (lv_at hl 2 rfl) ?_
      refine yg_9_9 X hw dX9_putAtom_114 rx0 h (fun v16 rv16 h => ?_)
      refine lv_iload hx hb dX9_putAtom_117 (lv_at hl 6 rfl) ?_
      refine k_iadd hx hb dX9_putAtom_119 h (fun r17 h => ?_)
      refine lv_iload_n hx hb dX9_putAtom_120 rfl (lv_at hl 3 rfl) ?_
      refine k_if_eq hx hb rx3 dX9_putAtom_121 (tgt := 133) rfl h (fun h => ?_) (fun h => ?_)
      · refine ySt_9_65 X hw dX9_putAtom_133 ?_
        refine lv_iload hx hb dX9_putAtom_135 (lv_at hl 1 rfl) ?_
        refine yChr_9_67 X hw rv10 hl.1 (Nat.le_of_ble_eq_true rfl) (Nat.le_trans (Nat.le_of_ble_eq_true rfl) hRf) (Nat.le_trans (Nat.le_of_ble_eq_true rfl) hRl) dX9_putAtom_137 h (fun v18 H locs rv18 hw h => ?_)
        refine yft_letters X hw rx0 r17 dX9_putAtom_140 h (fun H locs u hw h => ?_)
        refine k_iinc (k := 6) hx hb dX9_putAtom_141 hl rfl (by decide) rfl h (fun ls r19 h hl => ?_)
        have hl : lv_has ls 10 [(8, .int (jI (x8 + (-1)))), (5, .long (jL (Int.tdiv x5 x4))), (9, .int (jI v10)), (0, .ref (ad 10 x0.toNat)), (3, .int (jI x3)), (4, .int (jI x4)), (7, .int (jI x7))] := hl
        refine lv_goto hx hb dX9_putAtom_144 (tgt := 72) rfl ?_
        exact hR72 _ _ _ _ _ _ _ H locs ls rx0 rx3 rx4 r12 rx7 r19 hw (lv_sub hl [3, 4, 5, 1, 6, 0] rfl) h
      · refine lv_bipush hx hb dX9_putAtom_124 (v := jI 48) rfl ?_
        refine lv_iload hx hb dX9_putAtom_126 (lv_at hl 1 rfl) ?_
        refine k_iadd hx hb dX9_putAtom_128 h (fun r20 h => ?_)
        refine k_wi2c hx hb dX9_putAtom_129 h (fun v21 rv21 h => ?_)
        refine lv_goto hx hb dX9_putAtom_130 (tgt := 140) rfl ?_
        refine yft_letters X hw rx0 r17 dX9_putAtom_140 h (fun H locs u hw h => ?_)
        refine k_iinc (k := 6) hx hb dX9_putAtom_141 hl rfl (by decide) rfl h (fun ls r22 h hl => ?_)
        have hl : lv_has ls 10 [(8, .int (jI (x8 + (-1)))), (5, .long (jL (Int.tdiv x5 x4))), (9, .int (jI v10)), (0, .ref (ad 10 x0.toNat)), (3, .int (jI x3)), (4, .int (jI x4)), (7, .int (jI x7))] := hl
        refine lv_goto hx hb dX9_putAtom_144 (tgt := 72) rfl ?_
        exact hR72 _ _ _ _ _ _ _ H locs ls rx0 rx3 rx4 r12 rx7 r22 hw (lv_sub hl [3, 4, 5, 1, 6, 0] rfl) h

def v_9_putAtom_45b (R45 : Int → Int → Int → Int → Int → Int → iST → Prop) (Q : iST → Prop) (x0 : Int) (x3 : Int) (x4 : Int) (x5 : Int) (x7 : Int) (x8 : Int) (u : iST) : Prop :=
  br (x8 ≤ 0) (
    ov (x7 - 1) (
    v_9_putAtom_72 Q x0 x3 x4 x5 x7 (x7 - 1) u)) (
    ov (x7 + 1) (
    (0 : Int) < x4 ∧ (
    R45 x0 x3 x4 x5 (x7 + 1) (Int.tdiv x8 x4) u)))
def v_9_putAtom_45 (Q : iST → Prop) (x0 : Int) (x3 : Int) (x4 : Int) (x5 : Int) (x7 : Int) (x8 : Int) (u : iST) : Prop := ∀ R45 : Int → Int → Int → Int → Int → Int → iST → Prop, (∀ (x0 : Int) (x3 : Int) (x4 : Int) (x5 : Int) (x7 : Int) (x8 : Int) (u : iST), v_9_putAtom_45b R45 Q x0 x3 x4 x5 x7 x8 u → R45 x0 x3 x4 x5 x7 x8 u) → R45 x0 x3 x4 x5 x7 x8 u
set_option maxRecDepth 20000 in
set_option maxHeartbeats 4000000 in
theorem f_9_putAtom_45 (X : yX RX9 p m c cX9_putAtom 10 s args D ca ad A) (hRf : 6 ≤ R.frames) (hRl : 200 ≤ R.locals) {Q : iST → Prop} (hret : ∀ (u : iST) (H : Heap) (locs : List Loc) (ls : Array Slot) (pc : Nat), Q u → yW D ca A ad s H locs u → decode cX9_putAtom pc = .ok (.return_, 1) → W p l e R s m args below meth c H locs 0 0 Qf (F0 m pc ls [])) {x0 x3 x4 x5 x7 x8 : Int} (rx0 : (0 ≤ x0 ∧ x0 < 3)) (rx3 : inR x3) (rx4 : inR x4) (rx5 : inL x5) (rx7 : inR x7) (rx8 : inL x8) (hw : yW D ca A ad s H locs u) (hl : lv_has ls 10 [(0, .ref (ad 10 x0.toNat)), (3, .int (jI x3)), (4, .int (jI x4)), (5, .long (jL x5)), (7, .int (jI x7)), (8, .long (jL x8))]) (h : v_9_putAtom_45 Q x0 x3 x4 x5 x7 x8 u) : W p l e R s m args below meth c H locs 0 0 Qf (F0 m 45 ls []) := by
  refine h (fun x0 x3 x4 x5 x7 x8 u => ∀ (H : Heap) (locs : List Loc) (ls : Array Slot), (0 ≤ x0 ∧ x0 < 3) → inR x3 → inR x4 → inL x5 → inR x7 → inL x8 → yW D ca A ad s H locs u → lv_has ls 10 [(0, .ref (ad 10 x0.toNat)), (3, .int (jI x3)), (4, .int (jI x4)), (5, .long (jL x5)), (7, .int (jI x7)), (8, .long (jL x8))] → W p l e R s m args below meth c H locs 0 0 Qf (F0 m 45 ls [])) ?_ H locs ls rx0 rx3 rx4 rx5 rx7 rx8 hw hl
  clear h hl hw rx0 rx3 rx4 rx5 rx7 rx8
  intro x0 x3 x4 x5 x7 x8 u h H locs ls rx0 rx3 rx4 rx5 rx7 rx8 hw hl
  have hR45 : ∀ (x0 : Int) (x3 : Int) (x4 : Int) (x5 : Int) (x7 : Int) (x8 : Int) (u : iST) (H : Heap) (locs : List Loc) (ls : Array Slot), (0 ≤ x0 ∧ x0 < 3) → inR x3 → inR x4 → inL x5 → inR x7 → inL x8 → yW D ca A ad s H locs u → lv_has ls 10 [(0, .ref (ad 10 x0.toNat)), (3, .int (jI x3)), (4, .int (jI x4)), (5, .long (jL x5)), (7, .int (jI x7)), (8, .long (jL x8))] → (fun (x0 : Int) (x3 : Int) (x4 : Int) (x5 : Int) (x7 : Int) (x8 : Int) u => ∀ (H : Heap) (locs : List Loc) (ls : Array Slot), (0 ≤ x0 ∧ x0 < 3) → inR x3 → inR x4 → inL x5 → inR x7 → inL x8 → yW D ca A ad s H locs u → lv_has ls 10 [(0, .ref (ad 10 x0.toNat)), (3, .int (jI x3)), (4, .int (jI x4)), (5, .long (jL x5)), (7, .int (jI x7)), (8, .long (jL x8))] → W p l e R s m args below meth c H locs 0 0 Qf (F0 m 45 ls [])) x0 x3 x4 x5 x7 x8 u → W p l e R s m args below meth c H locs 0 0 Qf (F0 m 45 ls []) := fun x0 x3 x4 x5 x7 x8 u H locs ls rx0 rx3 rx4 rx5 rx7 rx8 hw hl h => h H locs ls rx0 rx3 rx4 rx5 rx7 rx8 hw hl
  have hx := X.1.1
  have hb := X.1.2.1
  unfold v_9_putAtom_45b at h
  refine lv_lload hx hb dX9_putAtom_45 (lv_at hl 5 rfl) ?_
  refine lv_lconst hx hb dX9_putAtom_47 (v := jL 0) rfl ?_
  refine k_lcmp_le hx hb rx8 (by decide) dX9_putAtom_48 dX9_putAtom_49 (tgt := 66) rfl h (fun h => ?_) (fun h => ?_)
  · refine lv_iload hx hb dX9_putAtom_66 (lv_at hl 4 rfl) ?_
    refine lv_iconst hx hb dX9_putAtom_68 (v := jI 1) rfl ?_
    refine k_isub hx hb dX9_putAtom_69 h (fun r4 h => ?_)
    refine lv_istore hx hb dX9_putAtom_70 hl (by decide) rfl (fun ls hl => ?_)
    have hl : lv_has ls 10 [(8, .int (jI (x7 - 1))), (0, .ref (ad 10 x0.toNat)), (3, .int (jI x3)), (4, .int (jI x4)), (5, .long (jL x5)), (7, .int (jI x7))] := hl
    exact f_9_putAtom_72 X hRf hRl hret rx0 rx3 rx4 rx5 rx7 r4 hw (lv_sub hl [1, 2, 3, 4, 5, 0] rfl) h
  · refine k_iinc (k := 4) hx hb dX9_putAtom_52 hl rfl (by decide) rfl h (fun ls r23 h hl => ?_)
    have hl : lv_has ls 10 [(7, .int (jI (x7 + 1))), (0, .ref (ad 10 x0.toNat)), (3, .int (jI x3)), (4, .int (jI x4)), (5, .long (jL x5)), (8, .long (jL x8))] := hl
    refine lv_lload hx hb dX9_putAtom_55 (lv_at hl 5 rfl) ?_
    refine lv_iload hx hb dX9_putAtom_57 (lv_at hl 3 rfl) ?_
    refine k_i2l hx hb rx4 dX9_putAtom_59 (fun r24 => ?_)
    refine k_ldiv hx hb rx8 r24 dX9_putAtom_60 h (fun r25 h => ?_)
    refine lv_lstore hx hb dX9_putAtom_61 hl (by decide) rfl (fun ls hl => ?_)
    have hl : lv_has ls 10 [(8, .long (jL (Int.tdiv x8 x4))), (7, .int (jI (x7 + 1))), (0, .ref (ad 10 x0.toNat)), (3, .int (jI x3)), (4, .int (jI x4)), (5, .long (jL x5))] := hl
    refine lv_goto hx hb dX9_putAtom_63 (tgt := 45) rfl ?_
    exact hR45 _ _ _ _ _ _ _ H locs ls rx0 rx3 rx4 rx5 r23 r25 hw (lv_sub hl [2, 3, 4, 5, 1, 0] rfl) h

def v_9_putAtom_25 (Q : iST → Prop) (x0 : Int) (x1 : Int) (x3 : Int) (y0 : Int) (u : iST) : Prop :=
  rl (wland x1 4611686018427387903) (fun v1 => 
  (0 : Int) < y0 ∧ (
  v_9_putAtom_45 Q x0 x3 y0 v1 1 (Int.tdiv v1 y0) u))
set_option maxRecDepth 20000 in
set_option maxHeartbeats 4000000 in
theorem f_9_putAtom_25 (X : yX RX9 p m c cX9_putAtom 10 s args D ca ad A) (hRf : 6 ≤ R.frames) (hRl : 200 ≤ R.locals) {Q : iST → Prop} (hret : ∀ (u : iST) (H : Heap) (locs : List Loc) (ls : Array Slot) (pc : Nat), Q u → yW D ca A ad s H locs u → decode cX9_putAtom pc = .ok (.return_, 1) → W p l e R s m args below meth c H locs 0 0 Qf (F0 m pc ls [])) {x0 x1 x3 y0 : Int} (rx0 : (0 ≤ x0 ∧ x0 < 3)) (rx1 : inL x1) (rx3 : inR x3) (ry0 : inR y0) (hw : yW D ca A ad s H locs u) (hl : lv_has ls 10 [(0, .ref (ad 10 x0.toNat)), (1, .long (jL x1)), (3, .int (jI x3))]) (h : v_9_putAtom_25 Q x0 x1 x3 y0 u) : W p l e R s m args below meth c H locs 0 0 Qf (F0 m 25 ls [.int (jI y0)]) := by
  have hx := X.1.1
  have hb := X.1.2.1
  unfold v_9_putAtom_25 at h
  refine lv_istore hx hb dX9_putAtom_25 hl (by decide) rfl (fun ls hl => ?_)
  have hl : lv_has ls 10 [(4, .int (jI y0)), (0, .ref (ad 10 x0.toNat)), (1, .long (jL x1)), (3, .int (jI x3))] := hl
  refine lv_lload_n hx hb dX9_putAtom_27 rfl (lv_at hl 2 rfl) ?_
  refine yld2 63 yK_9_63 X dX9_putAtom_28 ?_
  refine k_wland hx hb dX9_putAtom_31 h (fun v1 rv1 h => ?_)
  refine lv_lstore hx hb dX9_putAtom_32 hl (by decide) rfl (fun ls hl => ?_)
  have hl : lv_has ls 10 [(5, .long (jL v1)), (4, .int (jI y0)), (0, .ref (ad 10 x0.toNat)), (1, .long (jL x1)), (3, .int (jI x3))] := hl
  refine lv_iconst hx hb dX9_putAtom_34 (v := jI 1) rfl ?_
  refine lv_istore hx hb dX9_putAtom_35 hl (by decide) rfl (fun ls hl => ?_)
  have hl : lv_has ls 10 [(7, .int (jI 1)), (5, .long (jL v1)), (4, .int (jI y0)), (0, .ref (ad 10 x0.toNat)), (1, .long (jL x1)), (3, .int (jI x3))] := hl
  refine lv_lload hx hb dX9_putAtom_37 (lv_at hl 1 rfl) ?_
  refine lv_iload hx hb dX9_putAtom_39 (lv_at hl 2 rfl) ?_
  refine k_i2l hx hb ry0 dX9_putAtom_41 (fun r2 => ?_)
  refine k_ldiv hx hb rv1 r2 dX9_putAtom_42 h (fun r3 h => ?_)
  refine lv_lstore hx hb dX9_putAtom_43 hl (by decide) rfl (fun ls hl => ?_)
  have hl : lv_has ls 10 [(8, .long (jL (Int.tdiv v1 y0))), (7, .int (jI 1)), (5, .long (jL v1)), (4, .int (jI y0)), (0, .ref (ad 10 x0.toNat)), (1, .long (jL x1)), (3, .int (jI x3))] := hl
  exact f_9_putAtom_45 X hRf hRl hret rx0 rx3 ry0 rv1 (by decide) r3 hw (lv_sub hl [4, 6, 3, 2, 1, 0] rfl) h

def v_9_putAtom_13 (Q : iST → Prop) (x0 : Int) (x1 : Int) (y0 : Int) (u : iST) : Prop :=
  br (y0 = 0) (
    v_9_putAtom_25 Q x0 x1 y0 47 u) (
    v_9_putAtom_25 Q x0 x1 y0 10 u)
set_option maxRecDepth 20000 in
set_option maxHeartbeats 4000000 in
theorem f_9_putAtom_13 (X : yX RX9 p m c cX9_putAtom 10 s args D ca ad A) (hRf : 6 ≤ R.frames) (hRl : 200 ≤ R.locals) {Q : iST → Prop} (hret : ∀ (u : iST) (H : Heap) (locs : List Loc) (ls : Array Slot) (pc : Nat), Q u → yW D ca A ad s H locs u → decode cX9_putAtom pc = .ok (.return_, 1) → W p l e R s m args below meth c H locs 0 0 Qf (F0 m pc ls [])) {x0 x1 y0 : Int} (rx0 : (0 ≤ x0 ∧ x0 < 3)) (rx1 : inL x1) (ry0 : inR y0) (hw : yW D ca A ad s H locs u) (hl : lv_has ls 10 [(0, .ref (ad 10 x0.toNat)), (1, .long (jL x1))]) (h : v_9_putAtom_13 Q x0 x1 y0 u) : W p l e R s m args below meth c H locs 0 0 Qf (F0 m 13 ls [.int (jI y0)]) := by
  have hx := X.1.1
  have hb := X.1.2.1
  unfold v_9_putAtom_13 at h
  refine lv_istore_n hx hb dX9_putAtom_13 rfl hl (by decide) rfl (fun ls hl => ?_)
  have hl : lv_has ls 10 [(3, .int (jI y0)), (0, .ref (ad 10 x0.toNat)), (1, .long (jL x1))] := hl
  refine lv_iload_n hx hb dX9_putAtom_14 rfl (lv_at hl 0 rfl) ?_
  refine k_if_eq hx hb ry0 dX9_putAtom_15 (tgt := 23) rfl h (fun h => ?_) (fun h => ?_)
  · refine lv_bipush hx hb dX9_putAtom_23 (v := jI 47) rfl ?_
    exact f_9_putAtom_25 X hRf hRl hret rx0 rx1 ry0 (by decide) hw (lv_sub hl [1, 2, 0] rfl) h
  · refine lv_bipush hx hb dX9_putAtom_18 (v := jI 10) rfl ?_
    refine lv_goto hx hb dX9_putAtom_20 (tgt := 25) rfl ?_
    exact f_9_putAtom_25 X hRf hRl hret rx0 rx1 ry0 (by decide) hw (lv_sub hl [1, 2, 0] rfl) h

def v_9_putAtom (th : Int) (a0 : Int) (Q : iST → Prop) (u : iST) : Prop :=
  br (4611686018427387904 ≤ a0) (
    v_9_putAtom_13 Q th a0 0 u) (
    v_9_putAtom_13 Q th a0 1 u)
set_option maxRecDepth 20000 in
set_option maxHeartbeats 4000000 in
theorem f_9_putAtom_s (X : yX RX9 p m c cX9_putAtom 10 s args D ca ad A) (hRf : 6 ≤ R.frames) (hRl : 200 ≤ R.locals) {Q : iST → Prop} (hret : ∀ (u : iST) (H : Heap) (locs : List Loc) (ls : Array Slot) (pc : Nat), Q u → yW D ca A ad s H locs u → decode cX9_putAtom pc = .ok (.return_, 1) → W p l e R s m args below meth c H locs 0 0 Qf (F0 m pc ls [])) {th a0 : Int} (rth : (0 ≤ th ∧ th < 3)) (ra0 : inL a0) (hw : yW D ca A ad s H locs u) (hl : lv_has ls 10 [(0, .ref (ad 10 th.toNat)), (1, .long (jL a0))]) (h : v_9_putAtom th a0 Q u) : W p l e R s m args below meth c H locs 0 0 Qf (F0 m 0 ls []) := by
  have hx := X.1.1
  have hb := X.1.2.1
  unfold v_9_putAtom at h
  refine lv_lload_n hx hb dX9_putAtom_0 rfl (lv_at hl 1 rfl) ?_
  refine yld2 61 yK_9_61 X dX9_putAtom_1 ?_
  refine k_lcmp_ge hx hb ra0 (by decide) dX9_putAtom_4 dX9_putAtom_5 (tgt := 12) rfl h (fun h => ?_) (fun h => ?_)
  · refine lv_iconst hx hb dX9_putAtom_12 (v := jI 0) rfl ?_
    exact f_9_putAtom_13 X hRf hRl hret rth ra0 (by decide) hw hl h
  · refine lv_iconst hx hb dX9_putAtom_8 (v := jI 1) rfl ?_
    refine lv_goto hx hb dX9_putAtom_9 (tgt := 13) rfl ?_
    exact f_9_putAtom_13 X hRf hRl hret rth ra0 (by decide) hw hl h

end
theorem e_9_putAtom {l : Launch} {th : Int} {a0 : Int} (rth : (0 ≤ th ∧ th < 3)) (ra0 : inL a0) {Q : iST → Prop} {u : iST} (h : v_9_putAtom th a0 Q u) : yMV l yX9_putAtom (.code yX9_putAtom cX9_putAtom 10 none :: wsN) { frames := 6, cells := 0, slots := 0, locals := 200 } (fun ad => [.ref (ad 10 th.toNat), .long (jL a0)]) Q u := yMV_of (own := RX9) rfl (by decide +kernel) (fun _ => Nat.le_of_ble_eq_true rfl) (fun X hRf hRl hret hw hl => f_9_putAtom_s X hRf hRl hret rth ra0 hw hl h)

/-! ProofHouse$Scribe.write -/
theorem dX9_write_0 : decode cX9_write 0 = .ok (.iconst 0, 1) := by decide +kernel
theorem dX9_write_1 : decode cX9_write 1 = .ok (.istore_n 2, 1) := by decide +kernel
theorem dX9_write_2 : decode cX9_write 2 = .ok (.iload_n 1, 1) := by decide +kernel
theorem dX9_write_3 : decode cX9_write 3 = .ok (.istore_n 3, 1) := by decide +kernel
theorem dX9_write_4 : decode cX9_write 4 = .ok (.iconst 0, 1) := by decide +kernel
theorem dX9_write_5 : decode cX9_write 5 = .ok (.istore 4, 2) := by decide +kernel
theorem dX9_write_7 : decode cX9_write 7 = .ok (.iload 4, 2) := by decide +kernel
theorem dX9_write_9 : decode cX9_write 9 = .ok (.aload_n 0, 1) := by decide +kernel
theorem dX9_write_10 : decode cX9_write 10 = .ok (.getfield 25, 3) := by decide +kernel
theorem dX9_write_13 : decode cX9_write 13 = .ok (.arraylength, 1) := by decide +kernel
theorem dX9_write_14 : decode cX9_write 14 = .ok (.if_icmp .ge 237, 3) := by decide +kernel
theorem dX9_write_17 : decode cX9_write 17 = .ok (.aload_n 0, 1) := by decide +kernel
theorem dX9_write_18 : decode cX9_write 18 = .ok (.getfield 9, 3) := by decide +kernel
theorem dX9_write_21 : decode cX9_write 21 = .ok (.aload_n 0, 1) := by decide +kernel
theorem dX9_write_22 : decode cX9_write 22 = .ok (.getfield 25, 3) := by decide +kernel
theorem dX9_write_25 : decode cX9_write 25 = .ok (.arraylength, 1) := by decide +kernel
theorem dX9_write_26 : decode cX9_write 26 = .ok (.if_icmp .ge 225, 3) := by decide +kernel
theorem dX9_write_29 : decode cX9_write 29 = .ok (.iload_n 3, 1) := by decide +kernel
theorem dX9_write_30 : decode cX9_write 30 = .ok (.iconst (-1), 1) := by decide +kernel
theorem dX9_write_31 : decode cX9_write 31 = .ok (.if_icmp .eq 220, 3) := by decide +kernel
theorem dX9_write_34 : decode cX9_write 34 = .ok (.aload_n 0, 1) := by decide +kernel
theorem dX9_write_35 : decode cX9_write 35 = .ok (.getfield 15, 3) := by decide +kernel
theorem dX9_write_38 : decode cX9_write 38 = .ok (.iload_n 3, 1) := by decide +kernel
theorem dX9_write_39 : decode cX9_write 39 = .ok (.invokevirtual 33, 3) := by decide +kernel
theorem dX9_write_42 : decode cX9_write 42 = .ok (.ifCond .eq 28, 3) := by decide +kernel
theorem dX9_write_45 : decode cX9_write 45 = .ok (.aload_n 0, 1) := by decide +kernel
theorem dX9_write_46 : decode cX9_write 46 = .ok (.bipush 39, 2) := by decide +kernel
theorem dX9_write_48 : decode cX9_write 48 = .ok (.invokevirtual 39, 3) := by decide +kernel
theorem dX9_write_51 : decode cX9_write 51 = .ok (.aload_n 0, 1) := by decide +kernel
theorem dX9_write_52 : decode cX9_write 52 = .ok (.getfield 15, 3) := by decide +kernel
theorem dX9_write_55 : decode cX9_write 55 = .ok (.aload_n 0, 1) := by decide +kernel
theorem dX9_write_56 : decode cX9_write 56 = .ok (.getfield 15, 3) := by decide +kernel
theorem dX9_write_59 : decode cX9_write 59 = .ok (.iload_n 3, 1) := by decide +kernel
theorem dX9_write_60 : decode cX9_write 60 = .ok (.invokevirtual 43, 3) := by decide +kernel
theorem dX9_write_63 : decode cX9_write 63 = .ok (.invokevirtual 47, 3) := by decide +kernel
theorem dX9_write_66 : decode cX9_write 66 = .ok (.istore_n 3, 1) := by decide +kernel
theorem dX9_write_67 : decode cX9_write 67 = .ok (.goto 178, 3) := by decide +kernel
theorem dX9_write_70 : decode cX9_write 70 = .ok (.aload_n 0, 1) := by decide +kernel
theorem dX9_write_71 : decode cX9_write 71 = .ok (.getfield 15, 3) := by decide +kernel
theorem dX9_write_74 : decode cX9_write 74 = .ok (.iload_n 3, 1) := by decide +kernel
theorem dX9_write_75 : decode cX9_write 75 = .ok (.invokevirtual 50, 3) := by decide +kernel
theorem dX9_write_78 : decode cX9_write 78 = .ok (.ifCond .eq 38, 3) := by decide +kernel
theorem dX9_write_81 : decode cX9_write 81 = .ok (.aload_n 0, 1) := by decide +kernel
theorem dX9_write_82 : decode cX9_write 82 = .ok (.bipush 40, 2) := by decide +kernel
theorem dX9_write_84 : decode cX9_write 84 = .ok (.invokevirtual 39, 3) := by decide +kernel
theorem dX9_write_87 : decode cX9_write 87 = .ok (.aload_n 0, 1) := by decide +kernel
theorem dX9_write_88 : decode cX9_write 88 = .ok (.getfield 29, 3) := by decide +kernel
theorem dX9_write_91 : decode cX9_write 91 = .ok (.iload_n 2, 1) := by decide +kernel
theorem dX9_write_92 : decode cX9_write 92 = .ok (.aload_n 0, 1) := by decide +kernel
theorem dX9_write_93 : decode cX9_write 93 = .ok (.getfield 15, 3) := by decide +kernel
theorem dX9_write_96 : decode cX9_write 96 = .ok (.iload_n 3, 1) := by decide +kernel
theorem dX9_write_97 : decode cX9_write 97 = .ok (.invokevirtual 43, 3) := by decide +kernel
theorem dX9_write_100 : decode cX9_write 100 = .ok (.iastore, 1) := by decide +kernel
theorem dX9_write_101 : decode cX9_write 101 = .ok (.iinc 2 1, 3) := by decide +kernel
theorem dX9_write_104 : decode cX9_write 104 = .ok (.aload_n 0, 1) := by decide +kernel
theorem dX9_write_105 : decode cX9_write 105 = .ok (.getfield 15, 3) := by decide +kernel
theorem dX9_write_108 : decode cX9_write 108 = .ok (.iload_n 3, 1) := by decide +kernel
theorem dX9_write_109 : decode cX9_write 109 = .ok (.invokevirtual 47, 3) := by decide +kernel
theorem dX9_write_112 : decode cX9_write 112 = .ok (.istore_n 3, 1) := by decide +kernel
theorem dX9_write_113 : decode cX9_write 113 = .ok (.goto 132, 3) := by decide +kernel
theorem dX9_write_116 : decode cX9_write 116 = .ok (.aload_n 0, 1) := by decide +kernel
theorem dX9_write_117 : decode cX9_write 117 = .ok (.aload_n 0, 1) := by decide +kernel
theorem dX9_write_118 : decode cX9_write 118 = .ok (.getfield 15, 3) := by decide +kernel
theorem dX9_write_121 : decode cX9_write 121 = .ok (.iload_n 3, 1) := by decide +kernel
theorem dX9_write_122 : decode cX9_write 122 = .ok (.invokevirtual 53, 3) := by decide +kernel
theorem dX9_write_125 : decode cX9_write 125 = .ok (.invokevirtual 57, 3) := by decide +kernel
theorem dX9_write_128 : decode cX9_write 128 = .ok (.iconst (-1), 1) := by decide +kernel
theorem dX9_write_129 : decode cX9_write 129 = .ok (.istore_n 3, 1) := by decide +kernel
theorem dX9_write_130 : decode cX9_write 130 = .ok (.iload_n 2, 1) := by decide +kernel
theorem dX9_write_131 : decode cX9_write 131 = .ok (.ifCond .le 114, 3) := by decide +kernel
theorem dX9_write_134 : decode cX9_write 134 = .ok (.iload_n 3, 1) := by decide +kernel
theorem dX9_write_135 : decode cX9_write 135 = .ok (.iconst (-1), 1) := by decide +kernel
theorem dX9_write_136 : decode cX9_write 136 = .ok (.if_icmp .ne 109, 3) := by decide +kernel
theorem dX9_write_139 : decode cX9_write 139 = .ok (.aload_n 0, 1) := by decide +kernel
theorem dX9_write_140 : decode cX9_write 140 = .ok (.getfield 29, 3) := by decide +kernel
theorem dX9_write_143 : decode cX9_write 143 = .ok (.iload_n 2, 1) := by decide +kernel
theorem dX9_write_144 : decode cX9_write 144 = .ok (.iconst 1, 1) := by decide +kernel
theorem dX9_write_145 : decode cX9_write 145 = .ok (.isub, 1) := by decide +kernel
theorem dX9_write_146 : decode cX9_write 146 = .ok (.iaload, 1) := by decide +kernel
theorem dX9_write_147 : decode cX9_write 147 = .ok (.istore 5, 2) := by decide +kernel
theorem dX9_write_149 : decode cX9_write 149 = .ok (.aload_n 0, 1) := by decide +kernel
theorem dX9_write_150 : decode cX9_write 150 = .ok (.getfield 15, 3) := by decide +kernel
theorem dX9_write_153 : decode cX9_write 153 = .ok (.iload 5, 2) := by decide +kernel
theorem dX9_write_155 : decode cX9_write 155 = .ok (.invokevirtual 50, 3) := by decide +kernel
theorem dX9_write_158 : decode cX9_write 158 = .ok (.ifCond .eq 39, 3) := by decide +kernel
theorem dX9_write_161 : decode cX9_write 161 = .ok (.aload_n 0, 1) := by decide +kernel
theorem dX9_write_162 : decode cX9_write 162 = .ok (.bipush 32, 2) := by decide +kernel
theorem dX9_write_164 : decode cX9_write 164 = .ok (.invokevirtual 39, 3) := by decide +kernel
theorem dX9_write_167 : decode cX9_write 167 = .ok (.aload_n 0, 1) := by decide +kernel
theorem dX9_write_168 : decode cX9_write 168 = .ok (.getfield 15, 3) := by decide +kernel
theorem dX9_write_171 : decode cX9_write 171 = .ok (.iload 5, 2) := by decide +kernel
theorem dX9_write_173 : decode cX9_write 173 = .ok (.invokevirtual 47, 3) := by decide +kernel
theorem dX9_write_176 : decode cX9_write 176 = .ok (.istore_n 3, 1) := by decide +kernel
theorem dX9_write_177 : decode cX9_write 177 = .ok (.aload_n 0, 1) := by decide +kernel
theorem dX9_write_178 : decode cX9_write 178 = .ok (.getfield 29, 3) := by decide +kernel
theorem dX9_write_181 : decode cX9_write 181 = .ok (.iload_n 2, 1) := by decide +kernel
theorem dX9_write_182 : decode cX9_write 182 = .ok (.iconst 1, 1) := by decide +kernel
theorem dX9_write_183 : decode cX9_write 183 = .ok (.isub, 1) := by decide +kernel
theorem dX9_write_184 : decode cX9_write 184 = .ok (.aload_n 0, 1) := by decide +kernel
theorem dX9_write_185 : decode cX9_write 185 = .ok (.getfield 15, 3) := by decide +kernel
theorem dX9_write_188 : decode cX9_write 188 = .ok (.iload 5, 2) := by decide +kernel
theorem dX9_write_190 : decode cX9_write 190 = .ok (.invokevirtual 43, 3) := by decide +kernel
theorem dX9_write_193 : decode cX9_write 193 = .ok (.iastore, 1) := by decide +kernel
theorem dX9_write_194 : decode cX9_write 194 = .ok (.goto (-64), 3) := by decide +kernel
theorem dX9_write_197 : decode cX9_write 197 = .ok (.iload 5, 2) := by decide +kernel
theorem dX9_write_199 : decode cX9_write 199 = .ok (.ifCond .eq 34, 3) := by decide +kernel
theorem dX9_write_202 : decode cX9_write 202 = .ok (.aload_n 0, 1) := by decide +kernel
theorem dX9_write_203 : decode cX9_write 203 = .ok (.bipush 32, 2) := by decide +kernel
theorem dX9_write_205 : decode cX9_write 205 = .ok (.invokevirtual 39, 3) := by decide +kernel
theorem dX9_write_208 : decode cX9_write 208 = .ok (.aload_n 0, 1) := by decide +kernel
theorem dX9_write_209 : decode cX9_write 209 = .ok (.bipush 46, 2) := by decide +kernel
theorem dX9_write_211 : decode cX9_write 211 = .ok (.invokevirtual 39, 3) := by decide +kernel
theorem dX9_write_214 : decode cX9_write 214 = .ok (.aload_n 0, 1) := by decide +kernel
theorem dX9_write_215 : decode cX9_write 215 = .ok (.bipush 32, 2) := by decide +kernel
theorem dX9_write_217 : decode cX9_write 217 = .ok (.invokevirtual 39, 3) := by decide +kernel
theorem dX9_write_220 : decode cX9_write 220 = .ok (.aload_n 0, 1) := by decide +kernel
theorem dX9_write_221 : decode cX9_write 221 = .ok (.aload_n 0, 1) := by decide +kernel
theorem dX9_write_222 : decode cX9_write 222 = .ok (.getfield 15, 3) := by decide +kernel
theorem dX9_write_225 : decode cX9_write 225 = .ok (.iload 5, 2) := by decide +kernel
theorem dX9_write_227 : decode cX9_write 227 = .ok (.invokevirtual 53, 3) := by decide +kernel
theorem dX9_write_230 : decode cX9_write 230 = .ok (.invokevirtual 57, 3) := by decide +kernel
theorem dX9_write_233 : decode cX9_write 233 = .ok (.aload_n 0, 1) := by decide +kernel
theorem dX9_write_234 : decode cX9_write 234 = .ok (.bipush 41, 2) := by decide +kernel
theorem dX9_write_236 : decode cX9_write 236 = .ok (.invokevirtual 39, 3) := by decide +kernel
theorem dX9_write_239 : decode cX9_write 239 = .ok (.iinc 2 (-1), 3) := by decide +kernel
theorem dX9_write_242 : decode cX9_write 242 = .ok (.goto (-112), 3) := by decide +kernel
theorem dX9_write_245 : decode cX9_write 245 = .ok (.iinc 4 1, 3) := by decide +kernel
theorem dX9_write_248 : decode cX9_write 248 = .ok (.goto (-241), 3) := by decide +kernel
theorem dX9_write_251 : decode cX9_write 251 = .ok (.return_, 1) := by decide +kernel

section
variable {p : Program} {l : Launch} {e : Env} {R : Room} {s : State} {m : MethodId} {args : Array Value} {below : List Frame} {meth : Method} {c : Code} {H : Heap} {locs : List Loc} {Qf : State → Prop}
variable {ls : Array Slot} {D : va_G} {ca : Nat → ClassId} {A : Nat → Prop} {ad : Nat → Nat → Nat} {u : iST}
def v_9_write_233 (R7 : Int → Int → Int → Int → iST → Prop) (R130 : Int → Int → Int → Int → iST → Prop) (Q : iST → Prop) (x0 : Int) (x2 : Int) (x3 : Int) (x4 : Int) (u : iST) : Prop :=
  v_9_put x0 41 (fun u => 
  ov (x2 + (-1)) (
  R130 x0 (x2 + (-1)) x3 x4 u)) u
set_option maxRecDepth 20000 in
set_option maxHeartbeats 4000000 in
theorem f_9_write_233 (X : yX RX9 p m c cX9_write 6 s args D ca ad A) (hRf : 7 ≤ R.frames) (hRl : 229 ≤ R.locals) {Q : iST → Prop} (hret : ∀ (u : iST) (H : Heap) (locs : List Loc) (ls : Array Slot) (pc : Nat), Q u → yW D ca A ad s H locs u → decode cX9_write pc = .ok (.return_, 1) → W p l e R s m args below meth c H locs 0 0 Qf (F0 m pc ls [])) {R7 : Int → Int → Int → Int → iST → Prop} (hR7 : ∀ (x0 : Int) (x2 : Int) (x3 : Int) (x4 : Int) (u : iST) (H : Heap) (locs : List Loc) (ls : Array Slot), (0 ≤ x0 ∧ x0 < 3) → inR x2 → inR x3 → inR x4 → yW D ca A ad s H locs u → lv_has ls 6 [(0, .ref (ad 10 x0.toNat)), (2, .int (jI x2)), (3, .int (jI x3)), (4, .int (jI x4))] → R7 x0 x2 x3 x4 u → W p l e R s m args below meth c H locs 0 0 Qf (F0 m 7 ls [])) {R130 : Int → Int → Int → Int → iST → Prop} (hR130 : ∀ (x0 : Int) (x2 : Int) (x3 : Int) (x4 : Int) (u : iST) (H : Heap) (locs : List Loc) (ls : Array Slot), (0 ≤ x0 ∧ x0 < 3) → inR x2 → inR x3 → inR x4 → yW D ca A ad s H locs u → lv_has ls 6 [(0, .ref (ad 10 x0.toNat)), (2, .int (jI x2)), (3, .int (jI x3)), (4, .int (jI x4))] → R130 x0 x2 x3 x4 u → W p l e R s m args below meth c H locs 0 0 Qf (F0 m 130 ls [])) {x0 x2 x3 x4 : Int} (rx0 : (0 ≤ x0 ∧ x0 < 3)) (rx2 : inR x2) (rx3 : inR x3) (rx4 : inR x4) (hw : yW D ca A ad s H locs u) (hl : lv_has ls 6 [(0, .ref (ad 10 x0.toNat)), (2, .int (jI x2)), (3, .int (jI x3)), (4, .int (jI x4))]) (h : v_9_write_233 R7 R130 Q x0 x2 x3 x4 u) : W p l e R s m args below meth c H locs 0 0 Qf (F0 m 233 ls []) := by
  have hx := X.1.1
  have hb := X.1.2.1
  unfold v_9_write_233 at h
  refine lv_aload_n hx hb dX9_write_233 rfl (lv_at hl 0 rfl) ?_
  refine lv_bipush hx hb dX9_write_234 (v := jI 41) rfl ?_
  refine ycV (n := 1) (e_9_put rx0 (by decide) h) 9 (2041 + x0.toNat) (r := (RX9, TX9, 4)) rfl yG_9_39 yD_9_put X hw rfl (yGf_scribe (toNat_lt rx0)) (Nat.le_trans (Nat.le_of_ble_eq_true rfl) hRf) (Nat.le_trans (Nat.le_of_ble_eq_true rfl) hRl) rfl hl.1 (Nat.le_of_ble_eq_true rfl) rfl dX9_write_236 (fun u H locs h hw => ?_)
  refine k_iinc (k := 1) hx hb dX9_write_239 hl rfl (by decide) rfl h (fun ls r12 h hl => ?_)
  have hl : lv_has ls 6 [(2, .int (jI (x2 + (-1)))), (0, .ref (ad 10 x0.toNat)), (3, .int (jI x3)), (4, .int (jI x4))] := hl
  refine lv_goto hx hb dX9_write_242 (tgt := 130) rfl ?_
  exact hR130 _ _ _ _ _ H locs ls rx0 r12 rx3 rx4 hw (lv_sub hl [1, 0, 2, 3] rfl) h

def v_9_write_130b (R7 : Int → Int → Int → Int → iST → Prop) (R130 : Int → Int → Int → Int → iST → Prop) (Q : iST → Prop) (x0 : Int) (x2 : Int) (x3 : Int) (x4 : Int) (u : iST) : Prop :=
  br (x2 ≤ 0) (
    ov (x4 + 1) (
    R7 x0 x2 x3 (x4 + 1) u)) (
    br (x3 ≠ (-1)) (
      ov (x4 + 1) (
      R7 x0 x2 x3 (x4 + 1) u)) (
      ov (x2 - 1) (
      bd (x2 - 1) (slenI x0) (rd (u.2.1 56 (2000 * x0 + (x2 - 1))) (fun v9 => 
      v_7_isPair v9 (fun v10 u => 
      br (v10 = 0) (
        br (v9 = 0) (
          v_9_write_233 R7 R130 Q x0 x2 x3 x4 u) (
          v_9_put x0 32 (fun u => 
          v_9_put x0 46 (fun u => 
          v_9_put x0 32 (fun u => 
          v_7_cellOf v9 (fun v16 u => 
          v_9_putAtom x0 v16 (fun u => 
          v_9_write_233 R7 R130 Q x0 x2 x3 x4 u) u) u) u) u) u)) (
        v_9_put x0 32 (fun u => 
        v_7_left v9 (fun v19 u => 
        ov (x2 - 1) (
        v_7_right v9 (fun v21 u => 
        bd (x2 - 1) (slenI x0) (sw (iA u 56 (2000 * x0 + (x2 - 1)) v21) (fun u => 
        R130 x0 x2 v19 x4 u))) u)) u) u)) u)))))
def v_9_write_130 (R7 : Int → Int → Int → Int → iST → Prop) (Q : iST → Prop) (x0 : Int) (x2 : Int) (x3 : Int) (x4 : Int) (u : iST) : Prop := ∀ R130 : Int → Int → Int → Int → iST → Prop, (∀ (x0 : Int) (x2 : Int) (x3 : Int) (x4 : Int) (u : iST), v_9_write_130b R7 R130 Q x0 x2 x3 x4 u → R130 x0 x2 x3 x4 u) → R130 x0 x2 x3 x4 u
set_option maxRecDepth 20000 in
set_option maxHeartbeats 4000000 in
theorem f_9_write_130 (X : yX RX9 p m c cX9_write 6 s args D ca ad A) (hRf : 7 ≤ R.frames) (hRl : 229 ≤ R.locals) {Q : iST → Prop} (hret : ∀ (u : iST) (H : Heap) (locs : List Loc) (ls : Array Slot) (pc : Nat), Q u → yW D ca A ad s H locs u → decode cX9_write pc = .ok (.return_, 1) → W p l e R s m args below meth c H locs 0 0 Qf (F0 m pc ls [])) {R7 : Int → Int → Int → Int → iST → Prop} (hR7 : ∀ (x0 : Int) (x2 : Int) (x3 : Int) (x4 : Int) (u : iST) (H : Heap) (locs : List Loc) (ls : Array Slot), (0 ≤ x0 ∧ x0 < 3) → inR x2 → inR x3 → inR x4 → yW D ca A ad s H locs u → lv_has ls 6 [(0, .ref (ad 10 x0.toNat)), (2, .int (jI x2)), (3, .int (jI x3)), (4, .int (jI x4))] → R7 x0 x2 x3 x4 u → W p l e R s m args below meth c H locs 0 0 Qf (F0 m 7 ls [])) {x0 x2 x3 x4 : Int} (rx0 : (0 ≤ x0 ∧ x0 < 3)) (rx2 : inR x2) (rx3 : inR x3) (rx4 : inR x4) (hw : yW D ca A ad s H locs u) (hl : lv_has ls 6 [(0, .ref (ad 10 x0.toNat)), (2, .int (jI x2)), (3, .int (jI x3)), (4, .int (jI x4))]) (h : v_9_write_130 R7 Q x0 x2 x3 x4 u) : W p l e R s m args below meth c H locs 0 0 Qf (F0 m 130 ls []) := by
  refine h (fun x0 x2 x3 x4 u => ∀ (H : Heap) (locs : List Loc) (ls : Array Slot), (0 ≤ x0 ∧ x0 < 3) → inR x2 → inR x3 → inR x4 → yW D ca A ad s H locs u → lv_has ls 6 [(0, .ref (ad 10 x0.toNat)), (2, .int (jI x2)), (3, .int (jI x3)), (4, .int (jI x4))] → W p l e R s m args below meth c H locs 0 0 Qf (F0 m 130 ls [])) ?_ H locs ls rx0 rx2 rx3 rx4 hw hl
  clear h hl hw rx0 rx2 rx3 rx4
  intro x0 x2 x3 x4 u h H locs ls rx0 rx2 rx3 rx4 hw hl
  have hR130 : ∀ (x0 : Int) (x2 : Int) (x3 : Int) (x4 : Int) (u : iST) (H : Heap) (locs : List Loc) (ls : Array Slot), (0 ≤ x0 ∧ x0 < 3) → inR x2 → inR x3 → inR x4 → yW D ca A ad s H locs u → lv_has ls 6 [(0, .ref (ad 10 x0.toNat)), (2, .int (jI x2)), (3, .int (jI x3)), (4, .int (jI x4))] → (fun (x0 : Int) (x2 : Int) (x3 : Int) (x4 : Int) u => ∀ (H : Heap) (locs : List Loc) (ls : Array Slot), (0 ≤ x0 ∧ x0 < 3) → inR x2 → inR x3 → inR x4 → yW D ca A ad s H locs u → lv_has ls 6 [(0, .ref (ad 10 x0.toNat)), (2, .int (jI x2)), (3, .int (jI x3)), (4, .int (jI x4))] → W p l e R s m args below meth c H locs 0 0 Qf (F0 m 130 ls [])) x0 x2 x3 x4 u → W p l e R s m args below meth c H locs 0 0 Qf (F0 m 130 ls []) := fun x0 x2 x3 x4 u H locs ls rx0 rx2 rx3 rx4 hw hl h => h H locs ls rx0 rx2 rx3 rx4 hw hl
  have hx := X.1.1
  have hb := X.1.2.1
  unfold v_9_write_130b at h
  refine lv_iload_n hx hb dX9_write_130 rfl (lv_at hl 1 rfl) ?_
  refine k_if_le hx hb rx2 dX9_write_131 (tgt := 245) rfl h (fun h => ?_) (fun h => ?_)
  · refine k_iinc (k := 3) hx hb dX9_write_245 hl rfl (by decide) rfl h (fun ls r6 h hl => ?_)
    have hl : lv_has ls 6 [(4, .int (jI (x4 + 1))), (0, .ref (ad 10 x0.toNat)), (2, .int (jI x2)), (3, .int (jI x3))] := hl
    refine lv_goto hx hb dX9_write_248 (tgt := 7) rfl ?_
    exact hR7 _ _ _ _ _ H locs ls rx0 rx2 rx3 r6 hw (lv_sub hl [1, 2, 3, 0] rfl) h
  · refine lv_iload_n hx hb dX9_write_134 rfl (lv_at hl 2 rfl) ?_
    refine lv_iconst hx hb dX9_write_135 (v := jI (-1)) rfl ?_
    refine k_icmp_ne hx hb rx3 (by decide) dX9_write_136 (tgt := 245) rfl h (fun h => ?_) (fun h => ?_)
    · refine k_iinc (k := 3) hx hb dX9_write_245 hl rfl (by decide) rfl h (fun ls r7 h hl => ?_)
      have hl : lv_has ls 6 [(4, .int (jI (x4 + 1))), (0, .ref (ad 10 x0.toNat)), (2, .int (jI x2)), (3, .int (jI x3))] := hl
      refine lv_goto hx hb dX9_write_248 (tgt := 7) rfl ?_
      exact hR7 _ _ _ _ _ H locs ls rx0 rx2 rx3 r7 hw (lv_sub hl [1, 2, 3, 0] rfl) h
    · refine lv_aload_n hx hb dX9_write_139 rfl (lv_at hl 0 rfl) ?_
      refine yg_9_29 X hw dX9_write_140 rx0 ?_
      refine lv_iload_n hx hb dX9_write_143 rfl (lv_at hl 1 rfl) ?_
      refine lv_iconst hx hb dX9_write_144 (v := jI 1) rfl ?_
      refine k_isub hx hb dX9_write_145 h (fun r8 h => ?_)
      refine yfl_srests X hw rx0 r8 dX9_write_146 h (fun v9 rv9 h => ?_)
      refine lv_istore hx hb dX9_write_147 hl (by decide) rfl (fun ls hl => ?_)
      have hl : lv_has ls 6 [(5, .int (jI v9)), (0, .ref (ad 10 x0.toNat)), (2, .int (jI x2)), (3, .int (jI x3)), (4, .int (jI x4))] := hl
      refine lv_aload_n hx hb dX9_write_149 rfl (lv_at hl 1 rfl) ?_
      refine yg_9_15 X hw dX9_write_150 rx0 ?_
      refine lv_iload hx hb dX9_write_153 (lv_at hl 0 rfl) ?_
      refine ycI (n := 1) (e_7_isPair rv9 h) 7 6 (r := (RX7, TX7, 9)) rfl yG_9_50 yD_7_isPair X hw rfl yGo_7 (Nat.le_trans (Nat.le_of_ble_eq_true rfl) hRf) (Nat.le_trans (Nat.le_of_ble_eq_true rfl) hRl) rfl hl.1 (Nat.le_of_ble_eq_true rfl) rfl dX9_write_155 (fun v10 u H locs rv10 h hw => ?_)
      refine k_if_eq hx hb rv10 dX9_write_158 (tgt := 197) rfl h (fun h => ?_) (fun h => ?_)
      · refine lv_iload hx hb dX9_write_197 (lv_at hl 0 rfl) ?_
        refine k_if_eq hx hb rv9 dX9_write_199 (tgt := 233) rfl h (fun h => ?_) (fun h => ?_)
        · exact f_9_write_233 X hRf hRl hret hR7 hR130 rx0 rx2 rx3 rx4 hw (lv_sub hl [1, 2, 3, 4] rfl) h
        · refine lv_aload_n hx hb dX9_write_202 rfl (lv_at hl 1 rfl) ?_
          refine lv_bipush hx hb dX9_write_203 (v := jI 32) rfl ?_
          refine ycV (n := 1) (e_9_put rx0 (by decide) h) 9 (2041 + x0.toNat) (r := (RX9, TX9, 4)) rfl yG_9_39 yD_9_put X hw rfl (yGf_scribe (toNat_lt rx0)) (Nat.le_trans (Nat.le_of_ble_eq_true rfl) hRf) (Nat.le_trans (Nat.le_of_ble_eq_true rfl) hRl) rfl hl.1 (Nat.le_of_ble_eq_true rfl) rfl dX9_write_205 (fun u H locs h hw => ?_)
          refine lv_aload_n hx hb dX9_write_208 rfl (lv_at hl 1 rfl) ?_
          refine lv_bipush hx hb dX9_write_209 (v := jI 46) rfl ?_
          refine ycV (n := 1) (e_9_put rx0 (by decide) h) 9 (2041 + x0.toNat) (r := (RX9, TX9, 4)) rfl yG_9_39 yD_9_put X hw rfl (yGf_scribe (toNat_lt rx0)) (Nat.le_trans (Nat.le_of_ble_eq_true rfl) hRf) (Nat.le_trans (Nat.le_of_ble_eq_true rfl) hRl) rfl hl.1 (Nat.le_of_ble_eq_true rfl) rfl dX9_write_211 (fun u H locs h hw => ?_)
          refine lv_aload_n hx hb dX9_write_214 rfl (lv_at hl 1 rfl) ?_
          refine lv_bipush hx hb dX9_write_215 (v := jI 32) rfl ?_
          refine ycV (n := 1) (e_9_put rx0 (by decide) h) 9 (2041 + x0.toNat) (r := (RX9, TX9, 4)) rfl yG_9_39 yD_9_put X hw rfl (yGf_scribe (toNat_lt rx0)) (Nat.le_trans (Nat.le_of_ble_eq_true rfl) hRf) (Nat.le_trans (Nat.le_of_ble_eq_true rfl) hRl) rfl hl.1 (Nat.le_of_ble_eq_true rfl) rfl dX9_write_217 (fun u H locs h hw => ?_)
          refine lv_aload_n hx hb dX9_write_220 rfl (lv_at hl 1 rfl) ?_
          refine lv_aload_n hx hb dX9_write_221 rfl (lv_at hl 1 rfl) ?_
          refine yg_9_15 X hw dX9_write_222 rx0 ?_
          refine lv_iload hx hb dX9_write_225 (lv_at hl 0 rfl) ?_
          refine ycL (n := 1) (e_7_cellOf rv9 h) 7 6 (r := (RX7, TX7, 9)) rfl yG_9_53 yD_7_cellOf X hw rfl yGo_7 (Nat.le_trans (Nat.le_of_ble_eq_true rfl) hRf) (Nat.le_trans (Nat.le_of_ble_eq_true rfl) hRl) rfl hl.1 (Nat.le_of_ble_eq_true rfl) rfl dX9_write_227 (fun v16 u H locs rv16 h hw => ?_)
          refine ycV (n := 1) (e_9_putAtom rx0 rv16 h) 9 (2041 + x0.toNat) (r := (RX9, TX9, 4)) rfl yG_9_57 yD_9_putAtom X hw rfl (yGf_scribe (toNat_lt rx0)) (Nat.le_trans (Nat.le_of_ble_eq_true rfl) hRf) (Nat.le_trans (Nat.le_of_ble_eq_true rfl) hRl) rfl hl.1 (Nat.le_of_ble_eq_true rfl) rfl dX9_write_230 (fun u H locs h hw => ?_)
          exact f_9_write_233 X hRf hRl hret hR7 hR130 rx0 rx2 rx3 rx4 hw (lv_sub hl [1, 2, 3, 4] rfl) h
      · refine lv_aload_n hx hb dX9_write_161 rfl (lv_at hl 1 rfl) ?_
        refine lv_bipush hx hb dX9_write_162 (v := jI 32) rfl ?_
        refine ycV (n := 1) (e_9_put rx0 (by decide) h) 9 (2041 + x0.toNat) (r := (RX9, TX9, 4)) rfl yG_9_39 yD_9_put X hw rfl (yGf_scribe (toNat_lt rx0)) (Nat.le_trans (Nat.le_of_ble_eq_true rfl) hRf) (Nat.le_trans (Nat.le_of_ble_eq_true rfl) hRl) rfl hl.1 (Nat.le_of_ble_eq_true rfl) rfl dX9_write_164 (fun u H locs h hw => ?_)
        refine lv_aload_n hx hb dX9_write_167 rfl (lv_at hl 1 rfl) ?_
        refine yg_9_15 X hw dX9_write_168 rx0 ?_
        refine lv_iload hx hb dX9_write_171 (lv_at hl 0 rfl) ?_
        refine ycI (n := 1) (e_7_left rv9 h) 7 6 (r := (RX7, TX7, 9)) rfl yG_9_47 yD_7_left X hw rfl yGo_7 (Nat.le_trans (Nat.le_of_ble_eq_true rfl) hRf) (Nat.le_trans (Nat.le_of_ble_eq_true rfl) hRl) rfl hl.1 (Nat.le_of_ble_eq_true rfl) rfl dX9_write_173 (fun v19 u H locs rv19 h hw => ?_)
        refine lv_istore_n hx hb dX9_write_176 rfl hl (by decide) rfl (fun ls hl => ?_)
        have hl : lv_has ls 6 [(3, .int (jI v19)), (5, .int (jI v9)), (0, .ref (ad 10 x0.toNat)), (2, .int (jI x2)), (4, .int (jI x4))] := hl
        refine lv_aload_n hx hb dX9_write_177 rfl (lv_at hl 2 rfl) ?_
        refine yg_9_29 X hw dX9_write_178 rx0 ?_
        refine lv_iload_n hx hb dX9_write_181 rfl (lv_at hl 3 rfl) ?_
        refine lv_iconst hx hb dX9_write_182 (v := jI 1) rfl ?_
        refine k_isub hx hb dX9_write_183 h (fun r20 h => ?_)
        refine lv_aload_n hx hb dX9_write_184 rfl (lv_at hl 2 rfl) ?_
        refine yg_9_15 X hw dX9_write_185 rx0 ?_
        refine lv_iload hx hb dX9_write_188 (lv_at hl 1 rfl) ?_
        refine ycI (n := 1) (e_7_right rv9 h) 7 6 (r := (RX7, TX7, 9)) rfl yG_9_43 yD_7_right X hw rfl yGo_7 (Nat.le_trans (Nat.le_of_ble_eq_true rfl) hRf) (Nat.le_trans (Nat.le_of_ble_eq_true rfl) hRl) rfl hl.1 (Nat.le_of_ble_eq_true rfl) rfl dX9_write_190 (fun v21 u H locs rv21 h hw => ?_)
        refine yft_srests X hw rx0 r20 rv21 dX9_write_193 h (fun H locs u hw h => ?_)
        refine lv_goto hx hb dX9_write_194 (tgt := 130) rfl ?_
        exact hR130 _ _ _ _ _ H locs ls rx0 rx2 rv19 rx4 hw (lv_sub hl [2, 3, 0, 4] rfl) h

def v_9_write_7b (R7 : Int → Int → Int → Int → iST → Prop) (Q : iST → Prop) (x0 : Int) (x2 : Int) (x3 : Int) (x4 : Int) (u : iST) : Prop :=
  br ((slenI x0) ≤ x4) (
    Q u) (
    rd (u.2.1 54 x0) (fun v1 => 
    br ((slenI x0) ≤ v1) (
      Q u) (
      br (x3 = (-1)) (
        Q u) (
        v_7_isQuoted x3 (fun v2 u => 
        br (v2 = 0) (
          v_7_isPair x3 (fun v3 u => 
          br (v3 = 0) (
            v_7_cellOf x3 (fun v4 u => 
            v_9_putAtom x0 v4 (fun u => 
            v_9_write_130 R7 Q x0 x2 (-1) x4 u) u) u) (
            v_9_put x0 40 (fun u => 
            v_7_right x3 (fun v23 u => 
            bd x2 (slenI x0) (sw (iA u 56 (2000 * x0 + x2) v23) (fun u => 
            ov (x2 + 1) (
            v_7_left x3 (fun v25 u => 
            ov (x4 + 1) (
            R7 x0 (x2 + 1) v25 (x4 + 1) u)) u)))) u) u)) u) (
          v_9_put x0 39 (fun u => 
          v_7_right x3 (fun v28 u => 
          v_7_left v28 (fun v29 u => 
          ov (x4 + 1) (
          R7 x0 x2 v29 (x4 + 1) u)) u) u) u)) u))))
def v_9_write_7 (Q : iST → Prop) (x0 : Int) (x2 : Int) (x3 : Int) (x4 : Int) (u : iST) : Prop := ∀ R7 : Int → Int → Int → Int → iST → Prop, (∀ (x0 : Int) (x2 : Int) (x3 : Int) (x4 : Int) (u : iST), v_9_write_7b R7 Q x0 x2 x3 x4 u → R7 x0 x2 x3 x4 u) → R7 x0 x2 x3 x4 u
set_option maxRecDepth 20000 in
set_option maxHeartbeats 4000000 in
theorem f_9_write_7 (X : yX RX9 p m c cX9_write 6 s args D ca ad A) (hRf : 7 ≤ R.frames) (hRl : 229 ≤ R.locals) {Q : iST → Prop} (hret : ∀ (u : iST) (H : Heap) (locs : List Loc) (ls : Array Slot) (pc : Nat), Q u → yW D ca A ad s H locs u → decode cX9_write pc = .ok (.return_, 1) → W p l e R s m args below meth c H locs 0 0 Qf (F0 m pc ls [])) {x0 x2 x3 x4 : Int} (rx0 : (0 ≤ x0 ∧ x0 < 3)) (rx2 : inR x2) (rx3 : inR x3) (rx4 : inR x4) (hw : yW D ca A ad s H locs u) (hl : lv_has ls 6 [(0, .ref (ad 10 x0.toNat)), (2, .int (jI x2)), (3, .int (jI x3)), (4, .int (jI x4))]) (h : v_9_write_7 Q x0 x2 x3 x4 u) : W p l e R s m args below meth c H locs 0 0 Qf (F0 m 7 ls []) := by
  refine h (fun x0 x2 x3 x4 u => ∀ (H : Heap) (locs : List Loc) (ls : Array Slot), (0 ≤ x0 ∧ x0 < 3) → inR x2 → inR x3 → inR x4 → yW D ca A ad s H locs u → lv_has ls 6 [(0, .ref (ad 10 x0.toNat)), (2, .int (jI x2)), (3, .int (jI x3)), (4, .int (jI x4))] → W p l e R s m args below meth c H locs 0 0 Qf (F0 m 7 ls [])) ?_ H locs ls rx0 rx2 rx3 rx4 hw hl
  clear h hl hw rx0 rx2 rx3 rx4
  intro x0 x2 x3 x4 u h H locs ls rx0 rx2 rx3 rx4 hw hl
  have hR7 : ∀ (x0 : Int) (x2 : Int) (x3 : Int) (x4 : Int) (u : iST) (H : Heap) (locs : List Loc) (ls : Array Slot), (0 ≤ x0 ∧ x0 < 3) → inR x2 → inR x3 → inR x4 → yW D ca A ad s H locs u → lv_has ls 6 [(0, .ref (ad 10 x0.toNat)), (2, .int (jI x2)), (3, .int (jI x3)), (4, .int (jI x4))] → (fun (x0 : Int) (x2 : Int) (x3 : Int) (x4 : Int) u => ∀ (H : Heap) (locs : List Loc) (ls : Array Slot), (0 ≤ x0 ∧ x0 < 3) → inR x2 → inR x3 → inR x4 → yW D ca A ad s H locs u → lv_has ls 6 [(0, .ref (ad 10 x0.toNat)), (2, .int (jI x2)), (3, .int (jI x3)), (4, .int (jI x4))] → W p l e R s m args below meth c H locs 0 0 Qf (F0 m 7 ls [])) x0 x2 x3 x4 u → W p l e R s m args below meth c H locs 0 0 Qf (F0 m 7 ls []) := fun x0 x2 x3 x4 u H locs ls rx0 rx2 rx3 rx4 hw hl h => h H locs ls rx0 rx2 rx3 rx4 hw hl
  have hx := X.1.1
  have hb := X.1.2.1
  unfold v_9_write_7b at h
  refine lv_iload hx hb dX9_write_7 (lv_at hl 3 rfl) ?_
  refine lv_aload_n hx hb dX9_write_9 rfl (lv_at hl 0 rfl) ?_
  refine yg_9_25 X hw dX9_write_10 rx0 ?_
  refine yfn_letters X hw rx0 dX9_write_13 ?_
  refine k_icmp_ge hx hb rx4 (slenI_in x0) dX9_write_14 (tgt := 251) rfl h (fun h => ?_) (fun h => ?_)
  · exact hret _ _ _ _ _ h hw dX9_write_251
  · refine lv_aload_n hx hb dX9_write_17 rfl (lv_at hl 0 rfl) ?_
    refine yg_9_9 X hw dX9_write_18 rx0 h (fun v1 rv1 h => ?_)
    refine lv_aload_n hx hb dX9_write_21 rfl (lv_at hl 0 rfl) ?_
    refine yg_9_25 X hw dX9_write_22 rx0 ?_
    refine yfn_letters X hw rx0 dX9_write_25 ?_
    refine k_icmp_ge hx hb rv1 (slenI_in x0) dX9_write_26 (tgt := 251) rfl h (fun h => ?_) (fun h => ?_)
    · exact hret _ _ _ _ _ h hw dX9_write_251
    · refine lv_iload_n hx hb dX9_write_29 rfl (lv_at hl 2 rfl) ?_
      refine lv_iconst hx hb dX9_write_30 (v := jI (-1)) rfl ?_
      refine k_icmp_eq hx hb rx3 (by decide) dX9_write_31 (tgt := 251) rfl h (fun h => ?_) (fun h => ?_)
      · exact hret _ _ _ _ _ h hw dX9_write_251
      · refine lv_aload_n hx hb dX9_write_34 rfl (lv_at hl 0 rfl) ?_
        refine yg_9_15 X hw dX9_write_35 rx0 ?_
        refine lv_iload_n hx hb dX9_write_38 rfl (lv_at hl 2 rfl) ?_
        refine ycI (n := 1) (e_7_isQuoted rx3 h) 7 6 (r := (RX7, TX7, 9)) rfl yG_9_33 yD_7_isQuoted X hw rfl yGo_7 (Nat.le_trans (Nat.le_of_ble_eq_true rfl) hRf) (Nat.le_trans (Nat.le_of_ble_eq_true rfl) hRl) rfl hl.1 (Nat.le_of_ble_eq_true rfl) rfl dX9_write_39 (fun v2 u H locs rv2 h hw => ?_)
        refine k_if_eq hx hb rv2 dX9_write_42 (tgt := 70) rfl h (fun h => ?_) (fun h => ?_)
        · refine lv_aload_n hx hb dX9_write_70 rfl (lv_at hl 0 rfl) ?_
          refine yg_9_15 X hw dX9_write_71 rx0 ?_
          refine lv_iload_n hx hb dX9_write_74 rfl (lv_at hl 2 rfl) ?_
          refine ycI (n := 1) (e_7_isPair rx3 h) 7 6 (r := (RX7, TX7, 9)) rfl yG_9_50 yD_7_isPair X hw rfl yGo_7 (Nat.le_trans (Nat.le_of_ble_eq_true rfl) hRf) (Nat.le_trans (Nat.le_of_ble_eq_true rfl) hRl) rfl hl.1 (Nat.le_of_ble_eq_true rfl) rfl dX9_write_75 (fun v3 u H locs rv3 h hw => ?_)
          refine k_if_eq hx hb rv3 dX9_write_78 (tgt := 116) rfl h (fun h => ?_) (fun h => ?_)
          · refine lv_aload_n hx hb dX9_write_116 rfl (lv_at hl 0 rfl) ?_
            refine lv_aload_n hx hb dX9_write_117 rfl (lv_at hl 0 rfl) ?_
            refine yg_9_15 X hw dX9_write_118 rx0 ?_
            refine lv_iload_n hx hb dX9_write_121 rfl (lv_at hl 2 rfl) ?_
            refine ycL (n := 1) (e_7_cellOf rx3 h) 7 6 (r := (RX7, TX7, 9)) rfl yG_9_53 yD_7_cellOf X hw rfl yGo_7 (Nat.le_trans (Nat.le_of_ble_eq_true rfl) hRf) (Nat.le_trans (Nat.le_of_ble_eq_true rfl) hRl) rfl hl.1 (Nat.le_of_ble_eq_true rfl) rfl dX9_write_122 (fun v4 u H locs rv4 h hw => ?_)
            refine ycV (n := 1) (e_9_putAtom rx0 rv4 h) 9 (2041 + x0.toNat) (r := (RX9, TX9, 4)) rfl yG_9_57 yD_9_putAtom X hw rfl (yGf_scribe (toNat_lt rx0)) (Nat.le_trans (Nat.le_of_ble_eq_true rfl) hRf) (Nat.le_trans (Nat.le_of_ble_eq_true rfl) hRl) rfl hl.1 (Nat.le_of_ble_eq_true rfl) rfl dX9_write_125 (fun u H locs h hw => ?_)
            refine lv_iconst hx hb dX9_write_128 (v := jI (-1)) rfl ?_
            refine lv_istore_n hx hb dX9_write_129 rfl hl (by decide) rfl (fun ls hl => ?_)
            have hl : lv_has ls 6 [(3, .int (jI (-1))), (0, .ref (ad 10 x0.toNat)), (2, .int (jI x2)), (4, .int (jI x4))] := hl
            exact f_9_write_130 X hRf hRl hret hR7 rx0 rx2 (by decide) rx4 hw (lv_sub hl [1, 2, 0, 3] rfl) h
          · refine lv_aload_n hx hb dX9_write_81 rfl (lv_at hl 0 rfl) ?_
            refine lv_bipush hx hb dX9_write_82 (v := jI 40) rfl ?_
            refine ycV (n := 1) (e_9_put rx0 (by decide) h) 9 (2041 + x0.toNat) (r := (RX9, TX9, 4)) rfl yG_9_39 yD_9_put X hw rfl (yGf_scribe (toNat_lt rx0)) (Nat.le_trans (Nat.le_of_ble_eq_true rfl) hRf) (Nat.le_trans (Nat.le_of_ble_eq_true rfl) hRl) rfl hl.1 (Nat.le_of_ble_eq_true rfl) rfl dX9_write_84 (fun u H locs h hw => ?_)
            refine lv_aload_n hx hb dX9_write_87 rfl (lv_at hl 0 rfl) ?_
            refine yg_9_29 X hw dX9_write_88 rx0 ?_
            refine lv_iload_n hx hb dX9_write_91 rfl (lv_at hl 1 rfl) ?_
            refine lv_aload_n hx hb dX9_write_92 rfl (lv_at hl 0 rfl) ?_
            refine yg_9_15 X hw dX9_write_93 rx0 ?_
            refine lv_iload_n hx hb dX9_write_96 rfl (lv_at hl 2 rfl) ?_
            refine ycI (n := 1) (e_7_right rx3 h) 7 6 (r := (RX7, TX7, 9)) rfl yG_9_43 yD_7_right X hw rfl yGo_7 (Nat.le_trans (Nat.le_of_ble_eq_true rfl) hRf) (Nat.le_trans (Nat.le_of_ble_eq_true rfl) hRl) rfl hl.1 (Nat.le_of_ble_eq_true rfl) rfl dX9_write_97 (fun v23 u H locs rv23 h hw => ?_)
            refine yft_srests X hw rx0 rx2 rv23 dX9_write_100 h (fun H locs u hw h => ?_)
            refine k_iinc (k := 1) hx hb dX9_write_101 hl rfl (by decide) rfl h (fun ls r24 h hl => ?_)
            have hl : lv_has ls 6 [(2, .int (jI (x2 + 1))), (0, .ref (ad 10 x0.toNat)), (3, .int (jI x3)), (4, .int (jI x4))] := hl
            refine lv_aload_n hx hb dX9_write_104 rfl (lv_at hl 1 rfl) ?_
            refine yg_9_15 X hw dX9_write_105 rx0 ?_
            refine lv_iload_n hx hb dX9_write_108 rfl (lv_at hl 2 rfl) ?_
            refine ycI (n := 1) (e_7_left rx3 h) 7 6 (r := (RX7, TX7, 9)) rfl yG_9_47 yD_7_left X hw rfl yGo_7 (Nat.le_trans (Nat.le_of_ble_eq_true rfl) hRf) (Nat.le_trans (Nat.le_of_ble_eq_true rfl) hRl) rfl hl.1 (Nat.le_of_ble_eq_true rfl) rfl dX9_write_109 (fun v25 u H locs rv25 h hw => ?_)
            refine lv_istore_n hx hb dX9_write_112 rfl hl (by decide) rfl (fun ls hl => ?_)
            have hl : lv_has ls 6 [(3, .int (jI v25)), (2, .int (jI (x2 + 1))), (0, .ref (ad 10 x0.toNat)), (4, .int (jI x4))] := hl
            refine lv_goto hx hb dX9_write_113 (tgt := 245) rfl ?_
            refine k_iinc (k := 3) hx hb dX9_write_245 hl rfl (by decide) rfl h (fun ls r26 h hl => ?_)
            have hl : lv_has ls 6 [(4, .int (jI (x4 + 1))), (3, .int (jI v25)), (2, .int (jI (x2 + 1))), (0, .ref (ad 10 x0.toNat))] := hl
            refine lv_goto hx hb dX9_write_248 (tgt := 7) rfl ?_
            exact hR7 _ _ _ _ _ H locs ls rx0 r24 rv25 r26 hw (lv_sub hl [3, 2, 1, 0] rfl) h
        · refine lv_aload_n hx hb dX9_write_45 rfl (lv_at hl 0 rfl) ?_
          refine lv_bipush hx hb dX9_write_46 (v := jI 39) rfl ?_
          refine ycV (n := 1) (e_9_put rx0 (by decide) h) 9 (2041 + x0.toNat) (r := (RX9, TX9, 4)) rfl yG_9_39 yD_9_put X hw rfl (yGf_scribe (toNat_lt rx0)) (Nat.le_trans (Nat.le_of_ble_eq_true rfl) hRf) (Nat.le_trans (Nat.le_of_ble_eq_true rfl) hRl) rfl hl.1 (Nat.le_of_ble_eq_true rfl) rfl dX9_write_48 (fun u H locs h hw => ?_)
          refine lv_aload_n hx hb dX9_write_51 rfl (lv_at hl 0 rfl) ?_
          refine yg_9_15 X hw dX9_write_52 rx0 ?_
          refine lv_aload_n hx hb dX9_write_55 rfl (lv_at hl 0 rfl) ?_
          refine yg_9_15 X hw dX9_write_56 rx0 ?_
          refine lv_iload_n hx hb dX9_write_59 rfl (lv_at hl 2 rfl) ?_
          refine ycI (n := 1) (e_7_right rx3 h) 7 6 (r := (RX7, TX7, 9)) rfl yG_9_43 yD_7_right X hw rfl yGo_7 (Nat.le_trans (Nat.le_of_ble_eq_true rfl) hRf) (Nat.le_trans (Nat.le_of_ble_eq_true rfl) hRl) rfl hl.1 (Nat.le_of_ble_eq_true rfl) rfl dX9_write_60 (fun v28 u H locs rv28 h hw => ?_)
          refine ycI (n := 1) (e_7_left rv28 h) 7 6 (r := (RX7, TX7, 9)) rfl yG_9_47 yD_7_left X hw rfl yGo_7 (Nat.le_trans (Nat.le_of_ble_eq_true rfl) hRf) (Nat.le_trans (Nat.le_of_ble_eq_true rfl) hRl) rfl hl.1 (Nat.le_of_ble_eq_true rfl) rfl dX9_write_63 (fun v29 u H locs rv29 h hw => ?_)
          refine lv_istore_n hx hb dX9_write_66 rfl hl (by decide) rfl (fun ls hl => ?_)
          have hl : lv_has ls 6 [(3, .int (jI v29)), (0, .ref (ad 10 x0.toNat)), (2, .int (jI x2)), (4, .int (jI x4))] := hl
          refine lv_goto hx hb dX9_write_67 (tgt := 245) rfl ?_
          refine k_iinc (k := 3) hx hb dX9_write_245 hl rfl (by decide) rfl h (fun ls r30 h hl => ?_)
          have hl : lv_has ls 6 [(4, .int (jI (x4 + 1))), (3, .int (jI v29)), (0, .ref (ad 10 x0.toNat)), (2, .int (jI x2))] := hl
          refine lv_goto hx hb dX9_write_248 (tgt := 7) rfl ?_
          exact hR7 _ _ _ _ _ H locs ls rx0 rx2 rv29 r30 hw (lv_sub hl [2, 3, 1, 0] rfl) h

def v_9_write (th : Int) (a0 : Int) (Q : iST → Prop) (u : iST) : Prop :=
  v_9_write_7 Q th 0 a0 0 u
set_option maxRecDepth 20000 in
set_option maxHeartbeats 4000000 in
theorem f_9_write_s (X : yX RX9 p m c cX9_write 6 s args D ca ad A) (hRf : 7 ≤ R.frames) (hRl : 229 ≤ R.locals) {Q : iST → Prop} (hret : ∀ (u : iST) (H : Heap) (locs : List Loc) (ls : Array Slot) (pc : Nat), Q u → yW D ca A ad s H locs u → decode cX9_write pc = .ok (.return_, 1) → W p l e R s m args below meth c H locs 0 0 Qf (F0 m pc ls [])) {th a0 : Int} (rth : (0 ≤ th ∧ th < 3)) (ra0 : inR a0) (hw : yW D ca A ad s H locs u) (hl : lv_has ls 6 [(0, .ref (ad 10 th.toNat)), (1, .int (jI a0))]) (h : v_9_write th a0 Q u) : W p l e R s m args below meth c H locs 0 0 Qf (F0 m 0 ls []) := by
  have hx := X.1.1
  have hb := X.1.2.1
  unfold v_9_write at h
  refine lv_iconst hx hb dX9_write_0 (v := jI 0) rfl ?_
  refine lv_istore_n hx hb dX9_write_1 rfl hl (by decide) rfl (fun ls hl => ?_)
  have hl : lv_has ls 6 [(2, .int (jI 0)), (0, .ref (ad 10 th.toNat)), (1, .int (jI a0))] := hl
  refine lv_iload_n hx hb dX9_write_2 rfl (lv_at hl 2 rfl) ?_
  refine lv_istore_n hx hb dX9_write_3 rfl hl (by decide) rfl (fun ls hl => ?_)
  have hl : lv_has ls 6 [(3, .int (jI a0)), (2, .int (jI 0)), (0, .ref (ad 10 th.toNat)), (1, .int (jI a0))] := hl
  refine lv_iconst hx hb dX9_write_4 (v := jI 0) rfl ?_
  refine lv_istore hx hb dX9_write_5 hl (by decide) rfl (fun ls hl => ?_)
  have hl : lv_has ls 6 [(4, .int (jI 0)), (3, .int (jI a0)), (2, .int (jI 0)), (0, .ref (ad 10 th.toNat)), (1, .int (jI a0))] := hl
  exact f_9_write_7 X hRf hRl hret rth (by decide) ra0 (by decide) hw (lv_sub hl [3, 2, 1, 0] rfl) h

end
theorem e_9_write {l : Launch} {th : Int} {a0 : Int} (rth : (0 ≤ th ∧ th < 3)) (ra0 : inR a0) {Q : iST → Prop} {u : iST} (h : v_9_write th a0 Q u) : yMV l yX9_write (.code yX9_write cX9_write 6 none :: wsN) { frames := 7, cells := 0, slots := 0, locals := 229 } (fun ad => [.ref (ad 10 th.toNat), .int (jI a0)]) Q u := yMV_of (own := RX9) rfl (by decide +kernel) (fun _ => Nat.le_of_ble_eq_true rfl) (fun X hRf hRl hret hw hl => f_9_write_s X hRf hRl hret rth ra0 hw hl h)

/-! ProofHouse$Rewriter.compare -/
theorem dX6_compare_0 : decode cX6_compare 0 = .ok (.aload_n 0, 1) := by decide +kernel
theorem dX6_compare_1 : decode cX6_compare 1 = .ok (.getfield 47, 3) := by decide +kernel
theorem dX6_compare_4 : decode cX6_compare 4 = .ok (.aload_n 0, 1) := by decide +kernel
theorem dX6_compare_5 : decode cX6_compare 5 = .ok (.getfield 43, 3) := by decide +kernel
theorem dX6_compare_8 : decode cX6_compare 8 = .ok (.getfield 243, 3) := by decide +kernel
theorem dX6_compare_11 : decode cX6_compare 11 = .ok (.aload_n 1, 1) := by decide +kernel
theorem dX6_compare_12 : decode cX6_compare 12 = .ok (.bipush 8, 2) := by decide +kernel
theorem dX6_compare_14 : decode cX6_compare 14 = .ok (.iaload, 1) := by decide +kernel
theorem dX6_compare_15 : decode cX6_compare 15 = .ok (.iaload, 1) := by decide +kernel
theorem dX6_compare_16 : decode cX6_compare 16 = .ok (.aload_n 1, 1) := by decide +kernel
theorem dX6_compare_17 : decode cX6_compare 17 = .ok (.iconst 5, 1) := by decide +kernel
theorem dX6_compare_18 : decode cX6_compare 18 = .ok (.iaload, 1) := by decide +kernel
theorem dX6_compare_19 : decode cX6_compare 19 = .ok (.invokevirtual 247, 3) := by decide +kernel
theorem dX6_compare_22 : decode cX6_compare 22 = .ok (.pop, 1) := by decide +kernel
theorem dX6_compare_23 : decode cX6_compare 23 = .ok (.aload_n 0, 1) := by decide +kernel
theorem dX6_compare_24 : decode cX6_compare 24 = .ok (.getfield 60, 3) := by decide +kernel
theorem dX6_compare_27 : decode cX6_compare 27 = .ok (.invokevirtual 254, 3) := by decide +kernel
theorem dX6_compare_30 : decode cX6_compare 30 = .ok (.aload_n 0, 1) := by decide +kernel
theorem dX6_compare_31 : decode cX6_compare 31 = .ok (.getfield 60, 3) := by decide +kernel
theorem dX6_compare_34 : decode cX6_compare 34 = .ok (.aload_n 0, 1) := by decide +kernel
theorem dX6_compare_35 : decode cX6_compare 35 = .ok (.getfield 47, 3) := by decide +kernel
theorem dX6_compare_38 : decode cX6_compare 38 = .ok (.aload_n 0, 1) := by decide +kernel
theorem dX6_compare_39 : decode cX6_compare 39 = .ok (.getfield 43, 3) := by decide +kernel
theorem dX6_compare_42 : decode cX6_compare 42 = .ok (.getfield 257, 3) := by decide +kernel
theorem dX6_compare_45 : decode cX6_compare 45 = .ok (.aload_n 1, 1) := by decide +kernel
theorem dX6_compare_46 : decode cX6_compare 46 = .ok (.bipush 8, 2) := by decide +kernel
theorem dX6_compare_48 : decode cX6_compare 48 = .ok (.iaload, 1) := by decide +kernel
theorem dX6_compare_49 : decode cX6_compare 49 = .ok (.iaload, 1) := by decide +kernel
theorem dX6_compare_50 : decode cX6_compare 50 = .ok (.iconst 1, 1) := by decide +kernel
theorem dX6_compare_51 : decode cX6_compare 51 = .ok (.invokevirtual 260, 3) := by decide +kernel
theorem dX6_compare_54 : decode cX6_compare 54 = .ok (.invokevirtual 263, 3) := by decide +kernel
theorem dX6_compare_57 : decode cX6_compare 57 = .ok (.aload_n 0, 1) := by decide +kernel
theorem dX6_compare_58 : decode cX6_compare 58 = .ok (.getfield 64, 3) := by decide +kernel
theorem dX6_compare_61 : decode cX6_compare 61 = .ok (.invokevirtual 254, 3) := by decide +kernel
theorem dX6_compare_64 : decode cX6_compare 64 = .ok (.aload_n 0, 1) := by decide +kernel
theorem dX6_compare_65 : decode cX6_compare 65 = .ok (.getfield 64, 3) := by decide +kernel
theorem dX6_compare_68 : decode cX6_compare 68 = .ok (.aload_n 1, 1) := by decide +kernel
theorem dX6_compare_69 : decode cX6_compare 69 = .ok (.iconst 5, 1) := by decide +kernel
theorem dX6_compare_70 : decode cX6_compare 70 = .ok (.iaload, 1) := by decide +kernel
theorem dX6_compare_71 : decode cX6_compare 71 = .ok (.invokevirtual 263, 3) := by decide +kernel
theorem dX6_compare_74 : decode cX6_compare 74 = .ok (.iconst 0, 1) := by decide +kernel
theorem dX6_compare_75 : decode cX6_compare 75 = .ok (.istore_n 2, 1) := by decide +kernel
theorem dX6_compare_76 : decode cX6_compare 76 = .ok (.iload_n 2, 1) := by decide +kernel
theorem dX6_compare_77 : decode cX6_compare 77 = .ok (.aload_n 0, 1) := by decide +kernel
theorem dX6_compare_78 : decode cX6_compare 78 = .ok (.getfield 60, 3) := by decide +kernel
theorem dX6_compare_81 : decode cX6_compare 81 = .ok (.getfield 266, 3) := by decide +kernel
theorem dX6_compare_84 : decode cX6_compare 84 = .ok (.if_icmp .ge 41, 3) := by decide +kernel
theorem dX6_compare_87 : decode cX6_compare 87 = .ok (.iload_n 2, 1) := by decide +kernel
theorem dX6_compare_88 : decode cX6_compare 88 = .ok (.aload_n 0, 1) := by decide +kernel
theorem dX6_compare_89 : decode cX6_compare 89 = .ok (.getfield 64, 3) := by decide +kernel
theorem dX6_compare_92 : decode cX6_compare 92 = .ok (.getfield 266, 3) := by decide +kernel
theorem dX6_compare_95 : decode cX6_compare 95 = .ok (.if_icmp .ge 30, 3) := by decide +kernel
theorem dX6_compare_98 : decode cX6_compare 98 = .ok (.aload_n 0, 1) := by decide +kernel
theorem dX6_compare_99 : decode cX6_compare 99 = .ok (.getfield 60, 3) := by decide +kernel
theorem dX6_compare_102 : decode cX6_compare 102 = .ok (.getfield 269, 3) := by decide +kernel
theorem dX6_compare_105 : decode cX6_compare 105 = .ok (.iload_n 2, 1) := by decide +kernel
theorem dX6_compare_106 : decode cX6_compare 106 = .ok (.caload, 1) := by decide +kernel
theorem dX6_compare_107 : decode cX6_compare 107 = .ok (.aload_n 0, 1) := by decide +kernel
theorem dX6_compare_108 : decode cX6_compare 108 = .ok (.getfield 64, 3) := by decide +kernel
theorem dX6_compare_111 : decode cX6_compare 111 = .ok (.getfield 269, 3) := by decide +kernel
theorem dX6_compare_114 : decode cX6_compare 114 = .ok (.iload_n 2, 1) := by decide +kernel
theorem dX6_compare_115 : decode cX6_compare 115 = .ok (.caload, 1) := by decide +kernel
theorem dX6_compare_116 : decode cX6_compare 116 = .ok (.if_icmp .ne 9, 3) := by decide +kernel
theorem dX6_compare_119 : decode cX6_compare 119 = .ok (.iinc 2 1, 3) := by decide +kernel
theorem dX6_compare_122 : decode cX6_compare 122 = .ok (.goto (-46), 3) := by decide +kernel
theorem dX6_compare_125 : decode cX6_compare 125 = .ok (.iload_n 2, 1) := by decide +kernel
theorem dX6_compare_126 : decode cX6_compare 126 = .ok (.aload_n 0, 1) := by decide +kernel
theorem dX6_compare_127 : decode cX6_compare 127 = .ok (.getfield 60, 3) := by decide +kernel
theorem dX6_compare_130 : decode cX6_compare 130 = .ok (.getfield 266, 3) := by decide +kernel
theorem dX6_compare_133 : decode cX6_compare 133 = .ok (.if_icmp .ge 15, 3) := by decide +kernel
theorem dX6_compare_136 : decode cX6_compare 136 = .ok (.aload_n 0, 1) := by decide +kernel
theorem dX6_compare_137 : decode cX6_compare 137 = .ok (.getfield 60, 3) := by decide +kernel
theorem dX6_compare_140 : decode cX6_compare 140 = .ok (.getfield 269, 3) := by decide +kernel
theorem dX6_compare_143 : decode cX6_compare 143 = .ok (.iload_n 2, 1) := by decide +kernel
theorem dX6_compare_144 : decode cX6_compare 144 = .ok (.caload, 1) := by decide +kernel
theorem dX6_compare_145 : decode cX6_compare 145 = .ok (.goto 4, 3) := by decide +kernel
theorem dX6_compare_148 : decode cX6_compare 148 = .ok (.iconst (-1), 1) := by decide +kernel
theorem dX6_compare_149 : decode cX6_compare 149 = .ok (.istore_n 3, 1) := by decide +kernel
theorem dX6_compare_150 : decode cX6_compare 150 = .ok (.iload_n 2, 1) := by decide +kernel
theorem dX6_compare_151 : decode cX6_compare 151 = .ok (.aload_n 0, 1) := by decide +kernel
theorem dX6_compare_152 : decode cX6_compare 152 = .ok (.getfield 64, 3) := by decide +kernel
theorem dX6_compare_155 : decode cX6_compare 155 = .ok (.getfield 266, 3) := by decide +kernel
theorem dX6_compare_158 : decode cX6_compare 158 = .ok (.if_icmp .ge 15, 3) := by decide +kernel
theorem dX6_compare_161 : decode cX6_compare 161 = .ok (.aload_n 0, 1) := by decide +kernel
theorem dX6_compare_162 : decode cX6_compare 162 = .ok (.getfield 64, 3) := by decide +kernel
theorem dX6_compare_165 : decode cX6_compare 165 = .ok (.getfield 269, 3) := by decide +kernel
theorem dX6_compare_168 : decode cX6_compare 168 = .ok (.iload_n 2, 1) := by decide +kernel
theorem dX6_compare_169 : decode cX6_compare 169 = .ok (.caload, 1) := by decide +kernel
theorem dX6_compare_170 : decode cX6_compare 170 = .ok (.goto 4, 3) := by decide +kernel
theorem dX6_compare_173 : decode cX6_compare 173 = .ok (.iconst (-1), 1) := by decide +kernel
theorem dX6_compare_174 : decode cX6_compare 174 = .ok (.istore 4, 2) := by decide +kernel
theorem dX6_compare_176 : decode cX6_compare 176 = .ok (.aload_n 1, 1) := by decide +kernel
theorem dX6_compare_177 : decode cX6_compare 177 = .ok (.iconst 3, 1) := by decide +kernel
theorem dX6_compare_178 : decode cX6_compare 178 = .ok (.iload_n 3, 1) := by decide +kernel
theorem dX6_compare_179 : decode cX6_compare 179 = .ok (.iload 4, 2) := by decide +kernel
theorem dX6_compare_181 : decode cX6_compare 181 = .ok (.if_icmp .ge 8, 3) := by decide +kernel
theorem dX6_compare_184 : decode cX6_compare 184 = .ok (.bipush 14, 2) := by decide +kernel
theorem dX6_compare_186 : decode cX6_compare 186 = .ok (.goto 5, 3) := by decide +kernel
theorem dX6_compare_189 : decode cX6_compare 189 = .ok (.bipush 12, 2) := by decide +kernel
theorem dX6_compare_191 : decode cX6_compare 191 = .ok (.iastore, 1) := by decide +kernel
theorem dX6_compare_192 : decode cX6_compare 192 = .ok (.aload_n 1, 1) := by decide +kernel
theorem dX6_compare_193 : decode cX6_compare 193 = .ok (.bipush 8, 2) := by decide +kernel
theorem dX6_compare_195 : decode cX6_compare 195 = .ok (.dup2, 1) := by decide +kernel
theorem dX6_compare_196 : decode cX6_compare 196 = .ok (.iaload, 1) := by decide +kernel
theorem dX6_compare_197 : decode cX6_compare 197 = .ok (.iload_n 3, 1) := by decide +kernel
theorem dX6_compare_198 : decode cX6_compare 198 = .ok (.iload 4, 2) := by decide +kernel
theorem dX6_compare_200 : decode cX6_compare 200 = .ok (.if_icmp .ge 7, 3) := by decide +kernel
theorem dX6_compare_203 : decode cX6_compare 203 = .ok (.iconst 0, 1) := by decide +kernel
theorem dX6_compare_204 : decode cX6_compare 204 = .ok (.goto 4, 3) := by decide +kernel
theorem dX6_compare_207 : decode cX6_compare 207 = .ok (.iconst 1, 1) := by decide +kernel
theorem dX6_compare_208 : decode cX6_compare 208 = .ok (.isub, 1) := by decide +kernel
theorem dX6_compare_209 : decode cX6_compare 209 = .ok (.iastore, 1) := by decide +kernel
theorem dX6_compare_210 : decode cX6_compare 210 = .ok (.return_, 1) := by decide +kernel

section
variable {p : Program} {l : Launch} {e : Env} {R : Room} {s : State} {m : MethodId} {args : Array Value} {below : List Frame} {meth : Method} {c : Code} {H : Heap} {locs : List Loc} {Qf : State → Prop}
variable {ls : Array Slot} {D : va_G} {ca : Nat → ClassId} {A : Nat → Prop} {ad : Nat → Nat → Nat} {u : iST}
def v_6_compare_208 (Q : iST → Prop) (y0 : Int) (y1 : Int) (y2 : Int) (y3 : Int) (u : iST) : Prop :=
  ov (y2 - y3) (
  bd y1 17 (sw (iA u 51 (17 * y0 + y1) (y2 - y3)) (fun u => 
  Q u)))
set_option maxRecDepth 20000 in
set_option maxHeartbeats 4000000 in
theorem f_6_compare_208 (X : yX RX6 p m c cX6_compare 5 s args D ca ad A) (hRf : 8 ≤ R.frames) (hRl : 254 ≤ R.locals) {Q : iST → Prop} (hret : ∀ (u : iST) (H : Heap) (locs : List Loc) (ls : Array Slot) (pc : Nat), Q u → yW D ca A ad s H locs u → decode cX6_compare pc = .ok (.return_, 1) → W p l e R s m args below meth c H locs 0 0 Qf (F0 m pc ls [])) {y0 y1 y2 y3 : Int} (ry0 : (0 ≤ y0 ∧ y0 < 60)) (ry1 : inR y1) (ry2 : inR y2) (ry3 : inR y3) (hw : yW D ca A ad s H locs u) (hl : lv_has ls 5 [(0, .ref (ad 0 5))]) (h : v_6_compare_208 Q y0 y1 y2 y3 u) : W p l e R s m args below meth c H locs 0 0 Qf (F0 m 208 ls [.int (jI y3), .int (jI y2), .int (jI y1), .ref (ad 7 y0.toNat)]) := by
  have hx := X.1.1
  have hb := X.1.2.1
  unfold v_6_compare_208 at h
  refine k_isub hx hb dX6_compare_208 h (fun r17 h => ?_)
  refine yft_frames X hw ry0 ry1 r17 dX6_compare_209 h (fun H locs u hw h => ?_)
  exact hret _ _ _ _ _ h hw dX6_compare_210

def v_6_compare_191 (Q : iST → Prop) (x1 : Int) (x3 : Int) (x4 : Int) (y0 : Int) (y1 : Int) (y2 : Int) (u : iST) : Prop :=
  bd y1 17 (sw (iA u 51 (17 * y0 + y1) y2) (fun u => 
  bd 8 17 (rd (u.2.1 51 (17 * x1 + 8)) (fun v16 => 
  br (x4 ≤ x3) (
    v_6_compare_208 Q x1 8 v16 1 u) (
    v_6_compare_208 Q x1 8 v16 0 u)))))
set_option maxRecDepth 20000 in
set_option maxHeartbeats 4000000 in
theorem f_6_compare_191 (X : yX RX6 p m c cX6_compare 5 s args D ca ad A) (hRf : 8 ≤ R.frames) (hRl : 254 ≤ R.locals) {Q : iST → Prop} (hret : ∀ (u : iST) (H : Heap) (locs : List Loc) (ls : Array Slot) (pc : Nat), Q u → yW D ca A ad s H locs u → decode cX6_compare pc = .ok (.return_, 1) → W p l e R s m args below meth c H locs 0 0 Qf (F0 m pc ls [])) {x1 x3 x4 y0 y1 y2 : Int} (rx1 : (0 ≤ x1 ∧ x1 < 60)) (rx3 : inR x3) (rx4 : inR x4) (ry0 : (0 ≤ y0 ∧ y0 < 60)) (ry1 : inR y1) (ry2 : inR y2) (hw : yW D ca A ad s H locs u) (hl : lv_has ls 5 [(0, .ref (ad 0 5)), (1, .ref (ad 7 x1.toNat)), (3, .int (jI x3)), (4, .int (jI x4))]) (h : v_6_compare_191 Q x1 x3 x4 y0 y1 y2 u) : W p l e R s m args below meth c H locs 0 0 Qf (F0 m 191 ls [.int (jI y2), .int (jI y1), .ref (ad 7 y0.toNat)]) := by
  have hx := X.1.1
  have hb := X.1.2.1
  unfold v_6_compare_191 at h
  refine yft_frames X hw ry0 ry1 ry2 dX6_compare_191 h (fun H locs u hw h => ?_)
  refine lv_aload_n hx hb dX6_compare_192 rfl (lv_at hl 1 rfl) ?_
  refine lv_bipush hx hb dX6_compare_193 (v := jI 8) rfl ?_
  refine lv_dup2_11 hx hb dX6_compare_195 rfl rfl ?_
  refine yfl_frames X hw rx1 (by decide) dX6_compare_196 h (fun v16 rv16 h => ?_)
  refine lv_iload_n hx hb dX6_compare_197 rfl (lv_at hl 2 rfl) ?_
  refine lv_iload hx hb dX6_compare_198 (lv_at hl 3 rfl) ?_
  refine k_icmp_ge hx hb rx3 rx4 dX6_compare_200 (tgt := 207) rfl h (fun h => ?_) (fun h => ?_)
  · refine lv_iconst hx hb dX6_compare_207 (v := jI 1) rfl ?_
    exact f_6_compare_208 X hRf hRl hret rx1 (by decide) rv16 (by decide) hw (lv_sub hl [0] rfl) h
  · refine lv_iconst hx hb dX6_compare_203 (v := jI 0) rfl ?_
    refine lv_goto hx hb dX6_compare_204 (tgt := 208) rfl ?_
    exact f_6_compare_208 X hRf hRl hret rx1 (by decide) rv16 (by decide) hw (lv_sub hl [0] rfl) h

def v_6_compare_174 (Q : iST → Prop) (x1 : Int) (x3 : Int) (y0 : Int) (u : iST) : Prop :=
  br (y0 ≤ x3) (
    v_6_compare_191 Q x1 x3 y0 x1 3 12 u) (
    v_6_compare_191 Q x1 x3 y0 x1 3 14 u)
set_option maxRecDepth 20000 in
set_option maxHeartbeats 4000000 in
theorem f_6_compare_174 (X : yX RX6 p m c cX6_compare 5 s args D ca ad A) (hRf : 8 ≤ R.frames) (hRl : 254 ≤ R.locals) {Q : iST → Prop} (hret : ∀ (u : iST) (H : Heap) (locs : List Loc) (ls : Array Slot) (pc : Nat), Q u → yW D ca A ad s H locs u → decode cX6_compare pc = .ok (.return_, 1) → W p l e R s m args below meth c H locs 0 0 Qf (F0 m pc ls [])) {x1 x3 y0 : Int} (rx1 : (0 ≤ x1 ∧ x1 < 60)) (rx3 : inR x3) (ry0 : inR y0) (hw : yW D ca A ad s H locs u) (hl : lv_has ls 5 [(0, .ref (ad 0 5)), (1, .ref (ad 7 x1.toNat)), (3, .int (jI x3))]) (h : v_6_compare_174 Q x1 x3 y0 u) : W p l e R s m args below meth c H locs 0 0 Qf (F0 m 174 ls [.int (jI y0)]) := by
  have hx := X.1.1
  have hb := X.1.2.1
  unfold v_6_compare_174 at h
  refine lv_istore hx hb dX6_compare_174 hl (by decide) rfl (fun ls hl => ?_)
  have hl : lv_has ls 5 [(4, .int (jI y0)), (0, .ref (ad 0 5)), (1, .ref (ad 7 x1.toNat)), (3, .int (jI x3))] := hl
  refine lv_aload_n hx hb dX6_compare_176 rfl (lv_at hl 2 rfl) ?_
  refine lv_iconst hx hb dX6_compare_177 (v := jI 3) rfl ?_
  refine lv_iload_n hx hb dX6_compare_178 rfl (lv_at hl 3 rfl) ?_
  refine lv_iload hx hb dX6_compare_179 (lv_at hl 0 rfl) ?_
  refine k_icmp_ge hx hb rx3 ry0 dX6_compare_181 (tgt := 189) rfl h (fun h => ?_) (fun h => ?_)
  · refine lv_bipush hx hb dX6_compare_189 (v := jI 12) rfl ?_
    exact f_6_compare_191 X hRf hRl hret rx1 rx3 ry0 rx1 (by decide) (by decide) hw (lv_sub hl [1, 2, 3, 0] rfl) h
  · refine lv_bipush hx hb dX6_compare_184 (v := jI 14) rfl ?_
    refine lv_goto hx hb dX6_compare_186 (tgt := 191) rfl ?_
    exact f_6_compare_191 X hRf hRl hret rx1 rx3 ry0 rx1 (by decide) (by decide) hw (lv_sub hl [1, 2, 3, 0] rfl) h

def v_6_compare_149 (Q : iST → Prop) (x1 : Int) (x2 : Int) (y0 : Int) (u : iST) : Prop :=
  rd (u.2.1 54 2) (fun v15 => 
  br (v15 ≤ x2) (
    v_6_compare_174 Q x1 y0 (-1) u) (
    bd x2 (slenI 2) (rh (u.2.1 55 (2000 * 2 + x2)) (fun v18 => 
    v_6_compare_174 Q x1 y0 v18 u))))
set_option maxRecDepth 20000 in
set_option maxHeartbeats 4000000 in
theorem f_6_compare_149 (X : yX RX6 p m c cX6_compare 5 s args D ca ad A) (hRf : 8 ≤ R.frames) (hRl : 254 ≤ R.locals) {Q : iST → Prop} (hret : ∀ (u : iST) (H : Heap) (locs : List Loc) (ls : Array Slot) (pc : Nat), Q u → yW D ca A ad s H locs u → decode cX6_compare pc = .ok (.return_, 1) → W p l e R s m args below meth c H locs 0 0 Qf (F0 m pc ls [])) {x1 x2 y0 : Int} (rx1 : (0 ≤ x1 ∧ x1 < 60)) (rx2 : inR x2) (ry0 : inR y0) (hw : yW D ca A ad s H locs u) (hl : lv_has ls 5 [(0, .ref (ad 0 5)), (1, .ref (ad 7 x1.toNat)), (2, .int (jI x2))]) (h : v_6_compare_149 Q x1 x2 y0 u) : W p l e R s m args below meth c H locs 0 0 Qf (F0 m 149 ls [.int (jI y0)]) := by
  have hx := X.1.1
  have hb := X.1.2.1
  unfold v_6_compare_149 at h
  refine lv_istore_n hx hb dX6_compare_149 rfl hl (by decide) rfl (fun ls hl => ?_)
  have hl : lv_has ls 5 [(3, .int (jI y0)), (0, .ref (ad 0 5)), (1, .ref (ad 7 x1.toNat)), (2, .int (jI x2))] := hl
  refine lv_iload_n hx hb dX6_compare_150 rfl (lv_at hl 3 rfl) ?_
  refine lv_aload_n hx hb dX6_compare_151 rfl (lv_at hl 1 rfl) ?_
  refine yg_6_64 X hw dX6_compare_152 ?_
  refine yg_6_266 (i := 2) X hw dX6_compare_155 (by decide) h (fun v15 rv15 h => ?_)
  refine k_icmp_ge hx hb rx2 rv15 dX6_compare_158 (tgt := 173) rfl h (fun h => ?_) (fun h => ?_)
  · refine lv_iconst hx hb dX6_compare_173 (v := jI (-1)) rfl ?_
    exact f_6_compare_174 X hRf hRl hret rx1 ry0 (by decide) hw (lv_sub hl [1, 2, 0] rfl) h
  · refine lv_aload_n hx hb dX6_compare_161 rfl (lv_at hl 1 rfl) ?_
    refine yg_6_64 X hw dX6_compare_162 ?_
    refine yg_6_269 (i := 2) X hw dX6_compare_165 (by decide) ?_
    refine lv_iload_n hx hb dX6_compare_168 rfl (lv_at hl 3 rfl) ?_
    refine yfl_letters X hw (by decide) rx2 dX6_compare_169 h (fun v18 rv18 h => ?_)
    refine lv_goto hx hb dX6_compare_170 (tgt := 174) rfl ?_
    exact f_6_compare_174 X hRf hRl hret rx1 ry0 (inC_in rv18) hw (lv_sub hl [1, 2, 0] rfl) h

def v_6_compare_125 (Q : iST → Prop) (x1 : Int) (x2 : Int) (u : iST) : Prop :=
  rd (u.2.1 54 1) (fun v14 => 
  br (v14 ≤ x2) (
    v_6_compare_149 Q x1 x2 (-1) u) (
    bd x2 (slenI 1) (rh (u.2.1 55 (2000 * 1 + x2)) (fun v19 => 
    v_6_compare_149 Q x1 x2 v19 u))))
set_option maxRecDepth 20000 in
set_option maxHeartbeats 4000000 in
theorem f_6_compare_125 (X : yX RX6 p m c cX6_compare 5 s args D ca ad A) (hRf : 8 ≤ R.frames) (hRl : 254 ≤ R.locals) {Q : iST → Prop} (hret : ∀ (u : iST) (H : Heap) (locs : List Loc) (ls : Array Slot) (pc : Nat), Q u → yW D ca A ad s H locs u → decode cX6_compare pc = .ok (.return_, 1) → W p l e R s m args below meth c H locs 0 0 Qf (F0 m pc ls [])) {x1 x2 : Int} (rx1 : (0 ≤ x1 ∧ x1 < 60)) (rx2 : inR x2) (hw : yW D ca A ad s H locs u) (hl : lv_has ls 5 [(0, .ref (ad 0 5)), (1, .ref (ad 7 x1.toNat)), (2, .int (jI x2))]) (h : v_6_compare_125 Q x1 x2 u) : W p l e R s m args below meth c H locs 0 0 Qf (F0 m 125 ls []) := by
  have hx := X.1.1
  have hb := X.1.2.1
  unfold v_6_compare_125 at h
  refine lv_iload_n hx hb dX6_compare_125 rfl (lv_at hl 2 rfl) ?_
  refine lv_aload_n hx hb dX6_compare_126 rfl (lv_at hl 0 rfl) ?_
  refine yg_6_60 X hw dX6_compare_127 ?_
  refine yg_6_266 (i := 1) X hw dX6_compare_130 (by decide) h (fun v14 rv14 h => ?_)
  refine k_icmp_ge hx hb rx2 rv14 dX6_compare_133 (tgt := 148) rfl h (fun h => ?_) (fun h => ?_)
  · refine lv_iconst hx hb dX6_compare_148 (v := jI (-1)) rfl ?_
    exact f_6_compare_149 X hRf hRl hret rx1 rx2 (by decide) hw hl h
  · refine lv_aload_n hx hb dX6_compare_136 rfl (lv_at hl 0 rfl) ?_
    refine yg_6_60 X hw dX6_compare_137 ?_
    refine yg_6_269 (i := 1) X hw dX6_compare_140 (by decide) ?_
    refine lv_iload_n hx hb dX6_compare_143 rfl (lv_at hl 2 rfl) ?_
    refine yfl_letters X hw (by decide) rx2 dX6_compare_144 h (fun v19 rv19 h => ?_)
    refine lv_goto hx hb dX6_compare_145 (tgt := 149) rfl ?_
    exact f_6_compare_149 X hRf hRl hret rx1 rx2 (inC_in rv19) hw hl h

def v_6_compare_76b (R76 : Int → Int → iST → Prop) (Q : iST → Prop) (x1 : Int) (x2 : Int) (u : iST) : Prop :=
  rd (u.2.1 54 1) (fun v13 => 
  br (v13 ≤ x2) (
    v_6_compare_125 Q x1 x2 u) (
    rd (u.2.1 54 2) (fun v20 => 
    br (v20 ≤ x2) (
      v_6_compare_125 Q x1 x2 u) (
      bd x2 (slenI 1) (rh (u.2.1 55 (2000 * 1 + x2)) (fun v21 => 
      bd x2 (slenI 2) (rh (u.2.1 55 (2000 * 2 + x2)) (fun v22 => 
      br (v21 ≠ v22) (
        v_6_compare_125 Q x1 x2 u) (
        ov (x2 + 1) (
        R76 x1 (x2 + 1) u))))))))))
def v_6_compare_76 (Q : iST → Prop) (x1 : Int) (x2 : Int) (u : iST) : Prop := ∀ R76 : Int → Int → iST → Prop, (∀ (x1 : Int) (x2 : Int) (u : iST), v_6_compare_76b R76 Q x1 x2 u → R76 x1 x2 u) → R76 x1 x2 u
set_option maxRecDepth 20000 in
set_option maxHeartbeats 4000000 in
theorem f_6_compare_76 (X : yX RX6 p m c cX6_compare 5 s args D ca ad A) (hRf : 8 ≤ R.frames) (hRl : 254 ≤ R.locals) {Q : iST → Prop} (hret : ∀ (u : iST) (H : Heap) (locs : List Loc) (ls : Array Slot) (pc : Nat), Q u → yW D ca A ad s H locs u → decode cX6_compare pc = .ok (.return_, 1) → W p l e R s m args below meth c H locs 0 0 Qf (F0 m pc ls [])) {x1 x2 : Int} (rx1 : (0 ≤ x1 ∧ x1 < 60)) (rx2 : inR x2) (hw : yW D ca A ad s H locs u) (hl : lv_has ls 5 [(0, .ref (ad 0 5)), (1, .ref (ad 7 x1.toNat)), (2, .int (jI x2))]) (h : v_6_compare_76 Q x1 x2 u) : W p l e R s m args below meth c H locs 0 0 Qf (F0 m 76 ls []) := by
  refine h (fun x1 x2 u => ∀ (H : Heap) (locs : List Loc) (ls : Array Slot), (0 ≤ x1 ∧ x1 < 60) → inR x2 → yW D ca A ad s H locs u → lv_has ls 5 [(0, .ref (ad 0 5)), (1, .ref (ad 7 x1.toNat)), (2, .int (jI x2))] → W p l e R s m args below meth c H locs 0 0 Qf (F0 m 76 ls [])) ?_ H locs ls rx1 rx2 hw hl
  clear h hl hw rx1 rx2
  intro x1 x2 u h H locs ls rx1 rx2 hw hl
  have hR76 : ∀ (x1 : Int) (x2 : Int) (u : iST) (H : Heap) (locs : List Loc) (ls : Array Slot), (0 ≤ x1 ∧ x1 < 60) → inR x2 → yW D ca A ad s H locs u → lv_has ls 5 [(0, .ref (ad 0 5)), (1, .ref (ad 7 x1.toNat)), (2, .int (jI x2))] → (fun (x1 : Int) (x2 : Int) u => ∀ (H : Heap) (locs : List Loc) (ls : Array Slot), (0 ≤ x1 ∧ x1 < 60) → inR x2 → yW D ca A ad s H locs u → lv_has ls 5 [(0, .ref (ad 0 5)), (1, .ref (ad 7 x1.toNat)), (2, .int (jI x2))] → W p l e R s m args below meth c H locs 0 0 Qf (F0 m 76 ls [])) x1 x2 u → W p l e R s m args below meth c H locs 0 0 Qf (F0 m 76 ls []) := fun x1 x2 u H locs ls rx1 rx2 hw hl h => h H locs ls rx1 rx2 hw hl
  have hx := X.1.1
  have hb := X.1.2.1
  unfold v_6_compare_76b at h
  refine lv_iload_n hx hb dX6_compare_76 rfl (lv_at hl 2 rfl) ?_
  refine lv_aload_n hx hb dX6_compare_77 rfl (lv_at hl 0 rfl) ?_
  refine yg_6_60 X hw dX6_compare_78 ?_
  refine yg_6_266 (i := 1) X hw dX6_compare_81 (by decide) h (fun v13 rv13 h => ?_)
  refine k_icmp_ge hx hb rx2 rv13 dX6_compare_84 (tgt := 125) rfl h (fun h => ?_) (fun h => ?_)
  · exact f_6_compare_125 X hRf hRl hret rx1 rx2 hw hl h
  · refine lv_iload_n hx hb dX6_compare_87 rfl (lv_at hl 2 rfl) ?_
    refine lv_aload_n hx hb dX6_compare_88 rfl (lv_at hl 0 rfl) ?_
    refine yg_6_64 X hw dX6_compare_89 ?_
    refine yg_6_266 (i := 2) X hw dX6_compare_92 (by decide) h (fun v20 rv20 h => ?_)
    refine k_icmp_ge hx hb rx2 rv20 dX6_compare_95 (tgt := 125) rfl h (fun h => ?_) (fun h => ?_)
    · exact f_6_compare_125 X hRf hRl hret rx1 rx2 hw hl h
    · refine lv_aload_n hx hb dX6_compare_98 rfl (lv_at hl 0 rfl) ?_
      refine yg_6_60 X hw dX6_compare_99 ?_
      refine yg_6_269 (i := 1) X hw dX6_compare_102 (by decide) ?_
      refine lv_iload_n hx hb dX6_compare_105 rfl (lv_at hl 2 rfl) ?_
      refine yfl_letters X hw (by decide) rx2 dX6_compare_106 h (fun v21 rv21 h => ?_)
      refine lv_aload_n hx hb dX6_compare_107 rfl (lv_at hl 0 rfl) ?_
      refine yg_6_64 X hw dX6_compare_108 ?_
      refine yg_6_269 (i := 2) X hw dX6_compare_111 (by decide) ?_
      refine lv_iload_n hx hb dX6_compare_114 rfl (lv_at hl 2 rfl) ?_
      refine yfl_letters X hw (by decide) rx2 dX6_compare_115 h (fun v22 rv22 h => ?_)
      refine k_icmp_ne hx hb (inC_in rv21) (inC_in rv22) dX6_compare_116 (tgt := 125) rfl h (fun h => ?_) (fun h => ?_)
      · exact f_6_compare_125 X hRf hRl hret rx1 rx2 hw hl h
      · refine k_iinc (k := 2) hx hb dX6_compare_119 hl rfl (by decide) rfl h (fun ls r23 h hl => ?_)
        have hl : lv_has ls 5 [(2, .int (jI (x2 + 1))), (0, .ref (ad 0 5)), (1, .ref (ad 7 x1.toNat))] := hl
        refine lv_goto hx hb dX6_compare_122 (tgt := 76) rfl ?_
        exact hR76 _ _ _ H locs ls rx1 r23 hw (lv_sub hl [1, 2, 0] rfl) h

def v_6_compare (a0 : Int) (Q : iST → Prop) (u : iST) : Prop :=
  bd 8 17 (rd (u.2.1 51 (17 * a0 + 8)) (fun v1 => 
  bd v1 60 (rd (u.2.1 7 v1) (fun v2 => 
  bd 5 17 (rd (u.2.1 51 (17 * a0 + 5)) (fun v3 => 
  v_10_matches v2 v3 (fun v4 u => 
  v_9_clear 1 (fun u => 
  bd 8 17 (rd (u.2.1 51 (17 * a0 + 8)) (fun v6 => 
  bd v6 60 (rd (u.2.1 8 v6) (fun v7 => 
  v_10_rebuilt v7 1 (fun v8 u => 
  v_9_write 1 v8 (fun u => 
  v_9_clear 2 (fun u => 
  bd 5 17 (rd (u.2.1 51 (17 * a0 + 5)) (fun v11 => 
  v_9_write 2 v11 (fun u => 
  v_6_compare_76 Q a0 0 u) u))) u) u) u))))) u) u))))))
set_option maxRecDepth 20000 in
set_option maxHeartbeats 4000000 in
theorem f_6_compare_s (X : yX RX6 p m c cX6_compare 5 s args D ca ad A) (hRf : 8 ≤ R.frames) (hRl : 254 ≤ R.locals) {Q : iST → Prop} (hret : ∀ (u : iST) (H : Heap) (locs : List Loc) (ls : Array Slot) (pc : Nat), Q u → yW D ca A ad s H locs u → decode cX6_compare pc = .ok (.return_, 1) → W p l e R s m args below meth c H locs 0 0 Qf (F0 m pc ls [])) {a0 : Int} (ra0 : (0 ≤ a0 ∧ a0 < 60)) (hw : yW D ca A ad s H locs u) (hl : lv_has ls 5 [(0, .ref (ad 0 5)), (1, .ref (ad 7 a0.toNat))]) (h : v_6_compare a0 Q u) : W p l e R s m args below meth c H locs 0 0 Qf (F0 m 0 ls []) := by
  have hx := X.1.1
  have hb := X.1.2.1
  unfold v_6_compare at h
  refine lv_aload_n hx hb dX6_compare_0 rfl (lv_at hl 0 rfl) ?_
  refine yg_6_47 X hw dX6_compare_1 ?_
  refine lv_aload_n hx hb dX6_compare_4 rfl (lv_at hl 0 rfl) ?_
  refine yg_6_43 X hw dX6_compare_5 ?_
  refine yg_6_243 X hw dX6_compare_8 ?_
  refine lv_aload_n hx hb dX6_compare_11 rfl (lv_at hl 1 rfl) ?_
  refine lv_bipush hx hb dX6_compare_12 (v := jI 8) rfl ?_
  refine yfl_frames X hw ra0 (by decide) dX6_compare_14 h (fun v1 rv1 h => ?_)
  refine yl_7 X hw rv1 dX6_compare_15 h (fun v2 rv2 h => ?_)
  refine lv_aload_n hx hb dX6_compare_16 rfl (lv_at hl 1 rfl) ?_
  refine lv_iconst hx hb dX6_compare_17 (v := jI 5) rfl ?_
  refine yfl_frames X hw ra0 (by decide) dX6_compare_18 h (fun v3 rv3 h => ?_)
  refine ycI (n := 2) (e_10_matches rv2 rv3 h) 10 8 (r := (RX10, TX10, 16)) rfl yG_6_247 yD_10_matches X hw rfl yGo_10 (Nat.le_trans (Nat.le_of_ble_eq_true rfl) hRf) (Nat.le_trans (Nat.le_of_ble_eq_true rfl) hRl) rfl hl.1 (Nat.le_of_ble_eq_true rfl) rfl dX6_compare_19 (fun v4 u H locs rv4 h hw => ?_)
  refine lv_pop hx hb dX6_compare_22 rfl ?_
  refine lv_aload_n hx hb dX6_compare_23 rfl (lv_at hl 0 rfl) ?_
  refine yg_6_60 X hw dX6_compare_24 ?_
  refine ycV (n := 0) (e_9_clear (by decide) h) 9 (2041 + (1 : Int).toNat) (r := (RX9, TX9, 4)) rfl yG_6_254 yD_9_clear X hw rfl (yGf_scribe (toNat_lt (by decide))) (Nat.le_trans (Nat.le_of_ble_eq_true rfl) hRf) (Nat.le_trans (Nat.le_of_ble_eq_true rfl) hRl) rfl hl.1 (Nat.le_of_ble_eq_true rfl) rfl dX6_compare_27 (fun u H locs h hw => ?_)
  refine lv_aload_n hx hb dX6_compare_30 rfl (lv_at hl 0 rfl) ?_
  refine yg_6_60 X hw dX6_compare_31 ?_
  refine lv_aload_n hx hb dX6_compare_34 rfl (lv_at hl 0 rfl) ?_
  refine yg_6_47 X hw dX6_compare_35 ?_
  refine lv_aload_n hx hb dX6_compare_38 rfl (lv_at hl 0 rfl) ?_
  refine yg_6_43 X hw dX6_compare_39 ?_
  refine yg_6_257 X hw dX6_compare_42 ?_
  refine lv_aload_n hx hb dX6_compare_45 rfl (lv_at hl 1 rfl) ?_
  refine lv_bipush hx hb dX6_compare_46 (v := jI 8) rfl ?_
  refine yfl_frames X hw ra0 (by decide) dX6_compare_48 h (fun v6 rv6 h => ?_)
  refine yl_8 X hw rv6 dX6_compare_49 h (fun v7 rv7 h => ?_)
  refine lv_iconst hx hb dX6_compare_50 (v := jI 1) rfl ?_
  refine ycI (n := 2) (e_10_rebuilt rv7 (by decide) h) 10 8 (r := (RX10, TX10, 16)) rfl yG_6_260 yD_10_rebuilt X hw rfl yGo_10 (Nat.le_trans (Nat.le_of_ble_eq_true rfl) hRf) (Nat.le_trans (Nat.le_of_ble_eq_true rfl) hRl) rfl hl.1 (Nat.le_of_ble_eq_true rfl) rfl dX6_compare_51 (fun v8 u H locs rv8 h hw => ?_)
  refine ycV (n := 1) (e_9_write (by decide) rv8 h) 9 (2041 + (1 : Int).toNat) (r := (RX9, TX9, 4)) rfl yG_6_263 yD_9_write X hw rfl (yGf_scribe (toNat_lt (by decide))) (Nat.le_trans (Nat.le_of_ble_eq_true rfl) hRf) (Nat.le_trans (Nat.le_of_ble_eq_true rfl) hRl) rfl hl.1 (Nat.le_of_ble_eq_true rfl) rfl dX6_compare_54 (fun u H locs h hw => ?_)
  refine lv_aload_n hx hb dX6_compare_57 rfl (lv_at hl 0 rfl) ?_
  refine yg_6_64 X hw dX6_compare_58 ?_
  refine ycV (n := 0) (e_9_clear (by decide) h) 9 (2041 + (2 : Int).toNat) (r := (RX9, TX9, 4)) rfl yG_6_254 yD_9_clear X hw rfl (yGf_scribe (toNat_lt (by decide))) (Nat.le_trans (Nat.le_of_ble_eq_true rfl) hRf) (Nat.le_trans (Nat.le_of_ble_eq_true rfl) hRl) rfl hl.1 (Nat.le_of_ble_eq_true rfl) rfl dX6_compare_61 (fun u H locs h hw => ?_)
  refine lv_aload_n hx hb dX6_compare_64 rfl (lv_at hl 0 rfl) ?_
  refine yg_6_64 X hw dX6_compare_65 ?_
  refine lv_aload_n hx hb dX6_compare_68 rfl (lv_at hl 1 rfl) ?_
  refine lv_iconst hx hb dX6_compare_69 (v := jI 5) rfl ?_
  refine yfl_frames X hw ra0 (by decide) dX6_compare_70 h (fun v11 rv11 h => ?_)
  refine ycV (n := 1) (e_9_write (by decide) rv11 h) 9 (2041 + (2 : Int).toNat) (r := (RX9, TX9, 4)) rfl yG_6_263 yD_9_write X hw rfl (yGf_scribe (toNat_lt (by decide))) (Nat.le_trans (Nat.le_of_ble_eq_true rfl) hRf) (Nat.le_trans (Nat.le_of_ble_eq_true rfl) hRl) rfl hl.1 (Nat.le_of_ble_eq_true rfl) rfl dX6_compare_71 (fun u H locs h hw => ?_)
  refine lv_iconst hx hb dX6_compare_74 (v := jI 0) rfl ?_
  refine lv_istore_n hx hb dX6_compare_75 rfl hl (by decide) rfl (fun ls hl => ?_)
  have hl : lv_has ls 5 [(2, .int (jI 0)), (0, .ref (ad 0 5)), (1, .ref (ad 7 a0.toNat))] := hl
  exact f_6_compare_76 X hRf hRl hret ra0 (by decide) hw (lv_sub hl [1, 2, 0] rfl) h

end
theorem e_6_compare {l : Launch} {a0 : Int} (ra0 : (0 ≤ a0 ∧ a0 < 60)) {Q : iST → Prop} {u : iST} (h : v_6_compare a0 Q u) : yMV l yX6_compare (.code yX6_compare cX6_compare 5 none :: wsN) { frames := 8, cells := 0, slots := 0, locals := 254 } (fun ad => [.ref (ad 0 5), .ref (ad 7 a0.toNat)]) Q u := yMV_of (own := RX6) rfl (by decide +kernel) (fun _ => Nat.le_of_ble_eq_true rfl) (fun X hRf hRl hret hw hl => f_6_compare_s X hRf hRl hret ra0 hw hl h)

/-! ProofHouse$Rewriter.apply -/
theorem dX6_apply_0 : decode cX6_apply 0 = .ok (.aload_n 1, 1) := by decide +kernel
theorem dX6_apply_1 : decode cX6_apply 1 = .ok (.bipush 8, 2) := by decide +kernel
theorem dX6_apply_3 : decode cX6_apply 3 = .ok (.iaload, 1) := by decide +kernel
theorem dX6_apply_4 : decode cX6_apply 4 = .ok (.istore_n 2, 1) := by decide +kernel
theorem dX6_apply_5 : decode cX6_apply 5 = .ok (.aload_n 0, 1) := by decide +kernel
theorem dX6_apply_6 : decode cX6_apply 6 = .ok (.getfield 47, 3) := by decide +kernel
theorem dX6_apply_9 : decode cX6_apply 9 = .ok (.aload_n 0, 1) := by decide +kernel
theorem dX6_apply_10 : decode cX6_apply 10 = .ok (.getfield 43, 3) := by decide +kernel
theorem dX6_apply_13 : decode cX6_apply 13 = .ok (.getfield 243, 3) := by decide +kernel
theorem dX6_apply_16 : decode cX6_apply 16 = .ok (.iload_n 2, 1) := by decide +kernel
theorem dX6_apply_17 : decode cX6_apply 17 = .ok (.iaload, 1) := by decide +kernel
theorem dX6_apply_18 : decode cX6_apply 18 = .ok (.aload_n 1, 1) := by decide +kernel
theorem dX6_apply_19 : decode cX6_apply 19 = .ok (.iconst 5, 1) := by decide +kernel
theorem dX6_apply_20 : decode cX6_apply 20 = .ok (.iaload, 1) := by decide +kernel
theorem dX6_apply_21 : decode cX6_apply 21 = .ok (.invokevirtual 247, 3) := by decide +kernel
theorem dX6_apply_24 : decode cX6_apply 24 = .ok (.pop, 1) := by decide +kernel
theorem dX6_apply_25 : decode cX6_apply 25 = .ok (.aload_n 1, 1) := by decide +kernel
theorem dX6_apply_26 : decode cX6_apply 26 = .ok (.bipush 9, 2) := by decide +kernel
theorem dX6_apply_28 : decode cX6_apply 28 = .ok (.iaload, 1) := by decide +kernel
theorem dX6_apply_29 : decode cX6_apply 29 = .ok (.aload_n 0, 1) := by decide +kernel
theorem dX6_apply_30 : decode cX6_apply 30 = .ok (.getfield 43, 3) := by decide +kernel
theorem dX6_apply_33 : decode cX6_apply 33 = .ok (.getfield 273, 3) := by decide +kernel
theorem dX6_apply_36 : decode cX6_apply 36 = .ok (.iload_n 2, 1) := by decide +kernel
theorem dX6_apply_37 : decode cX6_apply 37 = .ok (.iaload, 1) := by decide +kernel
theorem dX6_apply_38 : decode cX6_apply 38 = .ok (.if_icmp .lt 26, 3) := by decide +kernel
theorem dX6_apply_41 : decode cX6_apply 41 = .ok (.aload_n 0, 1) := by decide +kernel
theorem dX6_apply_42 : decode cX6_apply 42 = .ok (.aload_n 1, 1) := by decide +kernel
theorem dX6_apply_43 : decode cX6_apply 43 = .ok (.aload_n 0, 1) := by decide +kernel
theorem dX6_apply_44 : decode cX6_apply 44 = .ok (.getfield 47, 3) := by decide +kernel
theorem dX6_apply_47 : decode cX6_apply 47 = .ok (.aload_n 0, 1) := by decide +kernel
theorem dX6_apply_48 : decode cX6_apply 48 = .ok (.getfield 43, 3) := by decide +kernel
theorem dX6_apply_51 : decode cX6_apply 51 = .ok (.getfield 257, 3) := by decide +kernel
theorem dX6_apply_54 : decode cX6_apply 54 = .ok (.iload_n 2, 1) := by decide +kernel
theorem dX6_apply_55 : decode cX6_apply 55 = .ok (.iaload, 1) := by decide +kernel
theorem dX6_apply_56 : decode cX6_apply 56 = .ok (.iconst 1, 1) := by decide +kernel
theorem dX6_apply_57 : decode cX6_apply 57 = .ok (.invokevirtual 260, 3) := by decide +kernel
theorem dX6_apply_60 : decode cX6_apply 60 = .ok (.invokevirtual 184, 3) := by decide +kernel
theorem dX6_apply_63 : decode cX6_apply 63 = .ok (.return_, 1) := by decide +kernel
theorem dX6_apply_64 : decode cX6_apply 64 = .ok (.aload_n 1, 1) := by decide +kernel
theorem dX6_apply_65 : decode cX6_apply 65 = .ok (.iconst 3, 1) := by decide +kernel
theorem dX6_apply_66 : decode cX6_apply 66 = .ok (.bipush 15, 2) := by decide +kernel
theorem dX6_apply_68 : decode cX6_apply 68 = .ok (.iastore, 1) := by decide +kernel
theorem dX6_apply_69 : decode cX6_apply 69 = .ok (.aload_n 0, 1) := by decide +kernel
theorem dX6_apply_70 : decode cX6_apply 70 = .ok (.getfield 47, 3) := by decide +kernel
theorem dX6_apply_73 : decode cX6_apply 73 = .ok (.aload_n 0, 1) := by decide +kernel
theorem dX6_apply_74 : decode cX6_apply 74 = .ok (.getfield 43, 3) := by decide +kernel
theorem dX6_apply_77 : decode cX6_apply 77 = .ok (.getfield 276, 3) := by decide +kernel
theorem dX6_apply_80 : decode cX6_apply 80 = .ok (.iload_n 2, 1) := by decide +kernel
theorem dX6_apply_81 : decode cX6_apply 81 = .ok (.aaload, 1) := by decide +kernel
theorem dX6_apply_82 : decode cX6_apply 82 = .ok (.aload_n 1, 1) := by decide +kernel
theorem dX6_apply_83 : decode cX6_apply 83 = .ok (.bipush 9, 2) := by decide +kernel
theorem dX6_apply_85 : decode cX6_apply 85 = .ok (.iaload, 1) := by decide +kernel
theorem dX6_apply_86 : decode cX6_apply 86 = .ok (.iaload, 1) := by decide +kernel
theorem dX6_apply_87 : decode cX6_apply 87 = .ok (.iconst 1, 1) := by decide +kernel
theorem dX6_apply_88 : decode cX6_apply 88 = .ok (.invokevirtual 260, 3) := by decide +kernel
theorem dX6_apply_91 : decode cX6_apply 91 = .ok (.istore_n 3, 1) := by decide +kernel
theorem dX6_apply_92 : decode cX6_apply 92 = .ok (.aload_n 0, 1) := by decide +kernel
theorem dX6_apply_93 : decode cX6_apply 93 = .ok (.getfield 39, 3) := by decide +kernel
theorem dX6_apply_96 : decode cX6_apply 96 = .ok (.getfield 77, 3) := by decide +kernel
theorem dX6_apply_99 : decode cX6_apply 99 = .ok (.ifCond .ne 12, 3) := by decide +kernel
theorem dX6_apply_102 : decode cX6_apply 102 = .ok (.aload_n 0, 1) := by decide +kernel
theorem dX6_apply_103 : decode cX6_apply 103 = .ok (.iload_n 3, 1) := by decide +kernel
theorem dX6_apply_104 : decode cX6_apply 104 = .ok (.iconst 1, 1) := by decide +kernel
theorem dX6_apply_105 : decode cX6_apply 105 = .ok (.aload_n 1, 1) := by decide +kernel
theorem dX6_apply_106 : decode cX6_apply 106 = .ok (.iconst 2, 1) := by decide +kernel
theorem dX6_apply_107 : decode cX6_apply 107 = .ok (.iaload, 1) := by decide +kernel
theorem dX6_apply_108 : decode cX6_apply 108 = .ok (.invokevirtual 72, 3) := by decide +kernel
theorem dX6_apply_111 : decode cX6_apply 111 = .ok (.return_, 1) := by decide +kernel

section
variable {p : Program} {l : Launch} {e : Env} {R : Room} {s : State} {m : MethodId} {args : Array Value} {below : List Frame} {meth : Method} {c : Code} {H : Heap} {locs : List Loc} {Qf : State → Prop}
variable {ls : Array Slot} {D : va_G} {ca : Nat → ClassId} {A : Nat → Prop} {ad : Nat → Nat → Nat} {u : iST}
def v_6_apply (a0 : Int) (Q : iST → Prop) (u : iST) : Prop :=
  bd 8 17 (rd (u.2.1 51 (17 * a0 + 8)) (fun v1 => 
  bd v1 60 (rd (u.2.1 7 v1) (fun v2 => 
  bd 5 17 (rd (u.2.1 51 (17 * a0 + 5)) (fun v3 => 
  v_10_matches v2 v3 (fun v4 u => 
  bd 9 17 (rd (u.2.1 51 (17 * a0 + 9)) (fun v5 => 
  bd v1 60 (rd (u.2.1 9 v1) (fun v6 => 
  br (v5 < v6) (
    bd 3 17 (sw (iA u 51 (17 * a0 + 3) 15) (fun u => 
    bd v1 60 (
    bd 9 17 (rd (u.2.1 51 (17 * a0 + 9)) (fun v9 => 
    bd v9 60 (rd (u.2.1 50 (60 * v1 + v9)) (fun v10 => 
    v_10_rebuilt v10 1 (fun v11 u => 
    rd (u.1 32) (fun v12 => 
    br (v12 ≠ 0) (
      Q u) (
      bd 2 17 (rd (u.2.1 51 (17 * a0 + 2)) (fun v13 => 
      v_6_ask v11 1 v13 (fun u => 
      Q u) u))))) u)))))))) (
    bd v1 60 (rd (u.2.1 8 v1) (fun v15 => 
    v_10_rebuilt v15 1 (fun v16 u => 
    v_6_askInstead a0 v16 (fun u => 
    Q u) u) u)))))))) u))))))
set_option maxRecDepth 20000 in
set_option maxHeartbeats 4000000 in
theorem f_6_apply_s (X : yX RX6 p m c cX6_apply 4 s args D ca ad A) (hRf : 3 ≤ R.frames) (hRl : 106 ≤ R.locals) {Q : iST → Prop} (hret : ∀ (u : iST) (H : Heap) (locs : List Loc) (ls : Array Slot) (pc : Nat), Q u → yW D ca A ad s H locs u → decode cX6_apply pc = .ok (.return_, 1) → W p l e R s m args below meth c H locs 0 0 Qf (F0 m pc ls [])) {a0 : Int} (ra0 : (0 ≤ a0 ∧ a0 < 60)) (hw : yW D ca A ad s H locs u) (hl : lv_has ls 4 [(0, .ref (ad 0 5)), (1, .ref (ad 7 a0.toNat))]) (h : v_6_apply a0 Q u) : W p l e R s m args below meth c H locs 0 0 Qf (F0 m 0 ls []) := by
  have hx := X.1.1
  have hb := X.1.2.1
  unfold v_6_apply at h
  refine lv_aload_n hx hb dX6_apply_0 rfl (lv_at hl 1 rfl) ?_
  refine lv_bipush hx hb dX6_apply_1 (v := jI 8) rfl ?_
  refine yfl_frames X hw ra0 (by decide) dX6_apply_3 h (fun v1 rv1 h => ?_)
  refine lv_istore_n hx hb dX6_apply_4 rfl hl (by decide) rfl (fun ls hl => ?_)
  have hl : lv_has ls 4 [(2, .int (jI v1)), (0, .ref (ad 0 5)), (1, .ref (ad 7 a0.toNat))] := hl
  refine lv_aload_n hx hb dX6_apply_5 rfl (lv_at hl 1 rfl) ?_
  refine yg_6_47 X hw dX6_apply_6 ?_
  refine lv_aload_n hx hb dX6_apply_9 rfl (lv_at hl 1 rfl) ?_
  refine yg_6_43 X hw dX6_apply_10 ?_
  refine yg_6_243 X hw dX6_apply_13 ?_
  refine lv_iload_n hx hb dX6_apply_16 rfl (lv_at hl 0 rfl) ?_
  refine yl_7 X hw rv1 dX6_apply_17 h (fun v2 rv2 h => ?_)
  refine lv_aload_n hx hb dX6_apply_18 rfl (lv_at hl 2 rfl) ?_
  refine lv_iconst hx hb dX6_apply_19 (v := jI 5) rfl ?_
  refine yfl_frames X hw ra0 (by decide) dX6_apply_20 h (fun v3 rv3 h => ?_)
  refine ycI (n := 2) (e_10_matches rv2 rv3 h) 10 8 (r := (RX10, TX10, 16)) rfl yG_6_247 yD_10_matches X hw rfl yGo_10 (Nat.le_trans (Nat.le_of_ble_eq_true rfl) hRf) (Nat.le_trans (Nat.le_of_ble_eq_true rfl) hRl) rfl hl.1 (Nat.le_of_ble_eq_true rfl) rfl dX6_apply_21 (fun v4 u H locs rv4 h hw => ?_)
  refine lv_pop hx hb dX6_apply_24 rfl ?_
  refine lv_aload_n hx hb dX6_apply_25 rfl (lv_at hl 2 rfl) ?_
  refine lv_bipush hx hb dX6_apply_26 (v := jI 9) rfl ?_
  refine yfl_frames X hw ra0 (by decide) dX6_apply_28 h (fun v5 rv5 h => ?_)
  refine lv_aload_n hx hb dX6_apply_29 rfl (lv_at hl 1 rfl) ?_
  refine yg_6_43 X hw dX6_apply_30 ?_
  refine yg_6_273 X hw dX6_apply_33 ?_
  refine lv_iload_n hx hb dX6_apply_36 rfl (lv_at hl 0 rfl) ?_
  refine yl_9 X hw rv1 dX6_apply_37 h (fun v6 rv6 h => ?_)
  refine k_icmp_lt hx hb rv5 rv6 dX6_apply_38 (tgt := 64) rfl h (fun h => ?_) (fun h => ?_)
  · refine lv_aload_n hx hb dX6_apply_64 rfl (lv_at hl 2 rfl) ?_
    refine lv_iconst hx hb dX6_apply_65 (v := jI 3) rfl ?_
    refine lv_bipush hx hb dX6_apply_66 (v := jI 15) rfl ?_
    refine yft_frames X hw ra0 (by decide) (by decide) dX6_apply_68 h (fun H locs u hw h => ?_)
    refine lv_aload_n hx hb dX6_apply_69 rfl (lv_at hl 1 rfl) ?_
    refine yg_6_47 X hw dX6_apply_70 ?_
    refine lv_aload_n hx hb dX6_apply_73 rfl (lv_at hl 1 rfl) ?_
    refine yg_6_43 X hw dX6_apply_74 ?_
    refine yg_6_276 X hw dX6_apply_77 ?_
    refine lv_iload_n hx hb dX6_apply_80 rfl (lv_at hl 0 rfl) ?_
    have q7 := h
    have r8 : (0 ≤ v1 ∧ v1 < 60) := ⟨q7.1, by have := q7.2.1; omega⟩
    refine yx_0 X hw rv1 dX6_apply_81 h (fun h => ?_)
    refine lv_aload_n hx hb dX6_apply_82 rfl (lv_at hl 2 rfl) ?_
    refine lv_bipush hx hb dX6_apply_83 (v := jI 9) rfl ?_
    refine yfl_frames X hw ra0 (by decide) dX6_apply_85 h (fun v9 rv9 h => ?_)
    refine yfl_hyps X hw r8 rv9 dX6_apply_86 h (fun v10 rv10 h => ?_)
    refine lv_iconst hx hb dX6_apply_87 (v := jI 1) rfl ?_
    refine ycI (n := 2) (e_10_rebuilt rv10 (by decide) h) 10 8 (r := (RX10, TX10, 16)) rfl yG_6_260 yD_10_rebuilt X hw rfl yGo_10 (Nat.le_trans (Nat.le_of_ble_eq_true rfl) hRf) (Nat.le_trans (Nat.le_of_ble_eq_true rfl) hRl) rfl hl.1 (Nat.le_of_ble_eq_true rfl) rfl dX6_apply_88 (fun v11 u H locs rv11 h hw => ?_)
    refine lv_istore_n hx hb dX6_apply_91 rfl hl (by decide) rfl (fun ls hl => ?_)
    have hl : lv_has ls 4 [(3, .int (jI v11)), (2, .int (jI v1)), (0, .ref (ad 0 5)), (1, .ref (ad 7 a0.toNat))] := hl
    refine lv_aload_n hx hb dX6_apply_92 rfl (lv_at hl 2 rfl) ?_
    refine yg_6_39 X hw dX6_apply_93 ?_
    refine yg_6_77 X hw dX6_apply_96 h (fun v12 rv12 h => ?_)
    refine k_if_ne hx hb rv12 dX6_apply_99 (tgt := 111) rfl h (fun h => ?_) (fun h => ?_)
    · exact hret _ _ _ _ _ h hw dX6_apply_111
    · refine lv_aload_n hx hb dX6_apply_102 rfl (lv_at hl 2 rfl) ?_
      refine lv_iload_n hx hb dX6_apply_103 rfl (lv_at hl 0 rfl) ?_
      refine lv_iconst hx hb dX6_apply_104 (v := jI 1) rfl ?_
      refine lv_aload_n hx hb dX6_apply_105 rfl (lv_at hl 3 rfl) ?_
      refine lv_iconst hx hb dX6_apply_106 (v := jI 2) rfl ?_
      refine yfl_frames X hw ra0 (by decide) dX6_apply_107 h (fun v13 rv13 h => ?_)
      refine ycV (n := 3) (e_6_ask rv11 (by decide) rv13 h) 6 5 (r := (RX6, TX6, 14)) rfl yG_6_72 yD_6_ask X hw rfl yGo_6 (Nat.le_trans (Nat.le_of_ble_eq_true rfl) hRf) (Nat.le_trans (Nat.le_of_ble_eq_true rfl) hRl) rfl hl.1 (Nat.le_of_ble_eq_true rfl) rfl dX6_apply_108 (fun u H locs h hw => ?_)
      exact hret _ _ _ _ _ h hw dX6_apply_111
  · refine lv_aload_n hx hb dX6_apply_41 rfl (lv_at hl 1 rfl) ?_
    refine lv_aload_n hx hb dX6_apply_42 rfl (lv_at hl 2 rfl) ?_
    refine lv_aload_n hx hb dX6_apply_43 rfl (lv_at hl 1 rfl) ?_
    refine yg_6_47 X hw dX6_apply_44 ?_
    refine lv_aload_n hx hb dX6_apply_47 rfl (lv_at hl 1 rfl) ?_
    refine yg_6_43 X hw dX6_apply_48 ?_
    refine yg_6_257 X hw dX6_apply_51 ?_
    refine lv_iload_n hx hb dX6_apply_54 rfl (lv_at hl 0 rfl) ?_
    refine yl_8 X hw rv1 dX6_apply_55 h (fun v15 rv15 h => ?_)
    refine lv_iconst hx hb dX6_apply_56 (v := jI 1) rfl ?_
    refine ycI (n := 2) (e_10_rebuilt rv15 (by decide) h) 10 8 (r := (RX10, TX10, 16)) rfl yG_6_260 yD_10_rebuilt X hw rfl yGo_10 (Nat.le_trans (Nat.le_of_ble_eq_true rfl) hRf) (Nat.le_trans (Nat.le_of_ble_eq_true rfl) hRl) rfl hl.1 (Nat.le_of_ble_eq_true rfl) rfl dX6_apply_57 (fun v16 u H locs rv16 h hw => ?_)
    refine ycV (n := 2) (e_6_askInstead ra0 rv16 h) 6 5 (r := (RX6, TX6, 14)) rfl yG_6_184 yD_6_askInstead X hw rfl yGo_6 (Nat.le_trans (Nat.le_of_ble_eq_true rfl) hRf) (Nat.le_trans (Nat.le_of_ble_eq_true rfl) hRl) rfl hl.1 (Nat.le_of_ble_eq_true rfl) rfl dX6_apply_60 (fun u H locs h hw => ?_)
    exact hret _ _ _ _ _ h hw dX6_apply_63

end
theorem e_6_apply {l : Launch} {a0 : Int} (ra0 : (0 ≤ a0 ∧ a0 < 60)) {Q : iST → Prop} {u : iST} (h : v_6_apply a0 Q u) : yMV l yX6_apply (.code yX6_apply cX6_apply 4 none :: wsN) { frames := 3, cells := 0, slots := 0, locals := 106 } (fun ad => [.ref (ad 0 5), .ref (ad 7 a0.toNat)]) Q u := yMV_of (own := RX6) rfl (by decide +kernel) (fun _ => Nat.le_of_ble_eq_true rfl) (fun X hRf hRl hret hw hl => f_6_apply_s X hRf hRl hret ra0 hw hl h)
