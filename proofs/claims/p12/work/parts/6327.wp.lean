/-! ProofHouse$Schemes.offAsked -/
theorem dX8_offAsked_0 : decode cX8_offAsked 0 = .ok (.iconst 0, 1) := by decide +kernel
theorem dX8_offAsked_1 : decode cX8_offAsked 1 = .ok (.istore_n 2, 1) := by decide +kernel
theorem dX8_offAsked_2 : decode cX8_offAsked 2 = .ok (.iload_n 1, 1) := by decide +kernel
theorem dX8_offAsked_3 : decode cX8_offAsked 3 = .ok (.istore_n 3, 1) := by decide +kernel
theorem dX8_offAsked_4 : decode cX8_offAsked 4 = .ok (.aload_n 0, 1) := by decide +kernel
theorem dX8_offAsked_5 : decode cX8_offAsked 5 = .ok (.getfield 38, 3) := by decide +kernel
theorem dX8_offAsked_8 : decode cX8_offAsked 8 = .ok (.iload_n 3, 1) := by decide +kernel
theorem dX8_offAsked_9 : decode cX8_offAsked 9 = .ok (.invokevirtual 84, 3) := by decide +kernel
theorem dX8_offAsked_12 : decode cX8_offAsked 12 = .ok (.ifCond .eq 60, 3) := by decide +kernel
theorem dX8_offAsked_15 : decode cX8_offAsked 15 = .ok (.aload_n 0, 1) := by decide +kernel
theorem dX8_offAsked_16 : decode cX8_offAsked 16 = .ok (.getfield 38, 3) := by decide +kernel
theorem dX8_offAsked_19 : decode cX8_offAsked 19 = .ok (.aload_n 0, 1) := by decide +kernel
theorem dX8_offAsked_20 : decode cX8_offAsked 20 = .ok (.getfield 38, 3) := by decide +kernel
theorem dX8_offAsked_23 : decode cX8_offAsked 23 = .ok (.iload_n 3, 1) := by decide +kernel
theorem dX8_offAsked_24 : decode cX8_offAsked 24 = .ok (.invokevirtual 87, 3) := by decide +kernel
theorem dX8_offAsked_27 : decode cX8_offAsked 27 = .ok (.invokevirtual 193, 3) := by decide +kernel
theorem dX8_offAsked_30 : decode cX8_offAsked 30 = .ok (.ifCond .ne 5, 3) := by decide +kernel
theorem dX8_offAsked_33 : decode cX8_offAsked 33 = .ok (.iconst 2, 1) := by decide +kernel
theorem dX8_offAsked_34 : decode cX8_offAsked 34 = .ok (.ireturn, 1) := by decide +kernel
theorem dX8_offAsked_35 : decode cX8_offAsked 35 = .ok (.aload_n 0, 1) := by decide +kernel
theorem dX8_offAsked_36 : decode cX8_offAsked 36 = .ok (.getfield 42, 3) := by decide +kernel
theorem dX8_offAsked_39 : decode cX8_offAsked 39 = .ok (.aload_n 0, 1) := by decide +kernel
theorem dX8_offAsked_40 : decode cX8_offAsked 40 = .ok (.getfield 38, 3) := by decide +kernel
theorem dX8_offAsked_43 : decode cX8_offAsked 43 = .ok (.iload_n 3, 1) := by decide +kernel
theorem dX8_offAsked_44 : decode cX8_offAsked 44 = .ok (.invokevirtual 87, 3) := by decide +kernel
theorem dX8_offAsked_47 : decode cX8_offAsked 47 = .ok (.invokevirtual 138, 3) := by decide +kernel
theorem dX8_offAsked_50 : decode cX8_offAsked 50 = .ok (.iconst (-1), 1) := by decide +kernel
theorem dX8_offAsked_51 : decode cX8_offAsked 51 = .ok (.if_icmp .ne 7, 3) := by decide +kernel
theorem dX8_offAsked_54 : decode cX8_offAsked 54 = .ok (.iconst 3, 1) := by decide +kernel
theorem dX8_offAsked_55 : decode cX8_offAsked 55 = .ok (.goto 4, 3) := by decide +kernel
theorem dX8_offAsked_58 : decode cX8_offAsked 58 = .ok (.iload_n 2, 1) := by decide +kernel
theorem dX8_offAsked_59 : decode cX8_offAsked 59 = .ok (.istore_n 2, 1) := by decide +kernel
theorem dX8_offAsked_60 : decode cX8_offAsked 60 = .ok (.aload_n 0, 1) := by decide +kernel
theorem dX8_offAsked_61 : decode cX8_offAsked 61 = .ok (.getfield 38, 3) := by decide +kernel
theorem dX8_offAsked_64 : decode cX8_offAsked 64 = .ok (.iload_n 3, 1) := by decide +kernel
theorem dX8_offAsked_65 : decode cX8_offAsked 65 = .ok (.invokevirtual 81, 3) := by decide +kernel
theorem dX8_offAsked_68 : decode cX8_offAsked 68 = .ok (.istore_n 3, 1) := by decide +kernel
theorem dX8_offAsked_69 : decode cX8_offAsked 69 = .ok (.goto (-65), 3) := by decide +kernel
theorem dX8_offAsked_72 : decode cX8_offAsked 72 = .ok (.iload_n 2, 1) := by decide +kernel
theorem dX8_offAsked_73 : decode cX8_offAsked 73 = .ok (.ireturn, 1) := by decide +kernel

section
variable {p : Program} {l : Launch} {e : Env} {R : Room} {s : State} {m : MethodId} {args : Array Value} {below : List Frame} {meth : Method} {c : Code} {H : Heap} {locs : List Loc} {Qf : State → Prop}
variable {ls : Array Slot} {D : va_G} {ca : Nat → ClassId} {A : Nat → Prop} {ad : Nat → Nat → Nat} {u : iST}
def v_8_offAsked_59 (R4 : Int → Int → iST → Prop) (Q : Int → iST → Prop) (x3 : Int) (y0 : Int) (u : iST) : Prop :=
  v_7_right x3 (fun v6 u => 
  R4 y0 v6 u) u
set_option maxRecDepth 20000 in
set_option maxHeartbeats 4000000 in
theorem f_8_offAsked_59 (X : yX RX8 p m c cX8_offAsked 4 s args D ca ad A) (hRf : 1 ≤ R.frames) (hRl : 22 ≤ R.locals) {Q : Int → iST → Prop} (hret : ∀ (v : Int) (u : iST) (H : Heap) (locs : List Loc) (ls : Array Slot) (pc : Nat), inR v → Q v u → yW D ca A ad s H locs u → decode cX8_offAsked pc = .ok (.ireturn, 1) → W p l e R s m args below meth c H locs 0 0 Qf (F0 m pc ls [.int (jI v)])) {R4 : Int → Int → iST → Prop} (hR4 : ∀ (x2 : Int) (x3 : Int) (u : iST) (H : Heap) (locs : List Loc) (ls : Array Slot), inR x2 → inR x3 → yW D ca A ad s H locs u → lv_has ls 4 [(0, .ref (ad 0 7)), (2, .int (jI x2)), (3, .int (jI x3))] → R4 x2 x3 u → W p l e R s m args below meth c H locs 0 0 Qf (F0 m 4 ls [])) {x3 y0 : Int} (rx3 : inR x3) (ry0 : inR y0) (hw : yW D ca A ad s H locs u) (hl : lv_has ls 4 [(0, .ref (ad 0 7)), (3, .int (jI x3))]) (h : v_8_offAsked_59 R4 Q x3 y0 u) : W p l e R s m args below meth c H locs 0 0 Qf (F0 m 59 ls [.int (jI y0)]) := by
  have hx := X.1.1
  have hb := X.1.2.1
  unfold v_8_offAsked_59 at h
  refine lv_istore_n hx hb dX8_offAsked_59 rfl hl (by decide) rfl (fun ls hl => ?_)
  have hl : lv_has ls 4 [(2, .int (jI y0)), (0, .ref (ad 0 7)), (3, .int (jI x3))] := hl
  refine lv_aload_n hx hb dX8_offAsked_60 rfl (lv_at hl 1 rfl) ?_
  refine yg_8_38 X hw dX8_offAsked_61 ?_
  refine lv_iload_n hx hb dX8_offAsked_64 rfl (lv_at hl 2 rfl) ?_
  refine ycI (n := 1) (e_7_right rx3 h) 7 6 (r := (RX7, TX7, 9)) rfl yG_8_81 yD_7_right X hw rfl yGo_7 (Nat.le_trans (Nat.le_of_ble_eq_true rfl) hRf) (Nat.le_trans (Nat.le_of_ble_eq_true rfl) hRl) rfl hl.1 (Nat.le_of_ble_eq_true rfl) rfl dX8_offAsked_65 (fun v6 u H locs rv6 h hw => ?_)
  refine lv_istore_n hx hb dX8_offAsked_68 rfl hl (by decide) rfl (fun ls hl => ?_)
  have hl : lv_has ls 4 [(3, .int (jI v6)), (2, .int (jI y0)), (0, .ref (ad 0 7))] := hl
  refine lv_goto hx hb dX8_offAsked_69 (tgt := 4) rfl ?_
  exact hR4 _ _ _ H locs ls ry0 rv6 hw (lv_sub hl [2, 1, 0] rfl) h

def v_8_offAsked_4b (R4 : Int → Int → iST → Prop) (Q : Int → iST → Prop) (x2 : Int) (x3 : Int) (u : iST) : Prop :=
  v_7_isPair x3 (fun v1 u => 
  br (v1 = 0) (
    Q x2 u) (
    v_7_left x3 (fun v2 u => 
    v_7_isName v2 (fun v3 u => 
    br (v3 ≠ 0) (
      v_7_left x3 (fun v4 u => 
      v_0_theoremOf v4 (fun v5 u => 
      br (v5 ≠ (-1)) (
        v_8_offAsked_59 R4 Q x3 x2 u) (
        v_8_offAsked_59 R4 Q x3 3 u)) u) u) (
      Q 2 u)) u) u)) u
def v_8_offAsked_4 (Q : Int → iST → Prop) (x2 : Int) (x3 : Int) (u : iST) : Prop := ∀ R4 : Int → Int → iST → Prop, (∀ (x2 : Int) (x3 : Int) (u : iST), v_8_offAsked_4b R4 Q x2 x3 u → R4 x2 x3 u) → R4 x2 x3 u
set_option maxRecDepth 20000 in
set_option maxHeartbeats 4000000 in
theorem f_8_offAsked_4 (X : yX RX8 p m c cX8_offAsked 4 s args D ca ad A) (hRf : 1 ≤ R.frames) (hRl : 22 ≤ R.locals) {Q : Int → iST → Prop} (hret : ∀ (v : Int) (u : iST) (H : Heap) (locs : List Loc) (ls : Array Slot) (pc : Nat), inR v → Q v u → yW D ca A ad s H locs u → decode cX8_offAsked pc = .ok (.ireturn, 1) → W p l e R s m args below meth c H locs 0 0 Qf (F0 m pc ls [.int (jI v)])) {x2 x3 : Int} (rx2 : inR x2) (rx3 : inR x3) (hw : yW D ca A ad s H locs u) (hl : lv_has ls 4 [(0, .ref (ad 0 7)), (2, .int (jI x2)), (3, .int (jI x3))]) (h : v_8_offAsked_4 Q x2 x3 u) : W p l e R s m args below meth c H locs 0 0 Qf (F0 m 4 ls []) := by
  refine h (fun x2 x3 u => ∀ (H : Heap) (locs : List Loc) (ls : Array Slot), inR x2 → inR x3 → yW D ca A ad s H locs u → lv_has ls 4 [(0, .ref (ad 0 7)), (2, .int (jI x2)), (3, .int (jI x3))] → W p l e R s m args below meth c H locs 0 0 Qf (F0 m 4 ls [])) ?_ H locs ls rx2 rx3 hw hl
  clear h hl hw rx2 rx3
  intro x2 x3 u h H locs ls rx2 rx3 hw hl
  have hR4 : ∀ (x2 : Int) (x3 : Int) (u : iST) (H : Heap) (locs : List Loc) (ls : Array Slot), inR x2 → inR x3 → yW D ca A ad s H locs u → lv_has ls 4 [(0, .ref (ad 0 7)), (2, .int (jI x2)), (3, .int (jI x3))] → (fun (x2 : Int) (x3 : Int) u => ∀ (H : Heap) (locs : List Loc) (ls : Array Slot), inR x2 → inR x3 → yW D ca A ad s H locs u → lv_has ls 4 [(0, .ref (ad 0 7)), (2, .int (jI x2)), (3, .int (jI x3))] → W p l e R s m args below meth c H locs 0 0 Qf (F0 m 4 ls [])) x2 x3 u → W p l e R s m args below meth c H locs 0 0 Qf (F0 m 4 ls []) := fun x2 x3 u H locs ls rx2 rx3 hw hl h => h H locs ls rx2 rx3 hw hl
  have hx := X.1.1
  have hb := X.1.2.1
  unfold v_8_offAsked_4b at h
  refine lv_aload_n hx hb dX8_offAsked_4 rfl (lv_at hl 0 rfl) ?_
  refine yg_8_38 X hw dX8_offAsked_5 ?_
  refine lv_iload_n hx hb dX8_offAsked_8 rfl (lv_at hl 2 rfl) ?_
  refine ycI (n := 1) (e_7_isPair rx3 h) 7 6 (r := (RX7, TX7, 9)) rfl yG_8_84 yD_7_isPair X hw rfl yGo_7 (Nat.le_trans (Nat.le_of_ble_eq_true rfl) hRf) (Nat.le_trans (Nat.le_of_ble_eq_true rfl) hRl) rfl hl.1 (Nat.le_of_ble_eq_true rfl) rfl dX8_offAsked_9 (fun v1 u H locs rv1 h hw => ?_)
  refine k_if_eq hx hb rv1 dX8_offAsked_12 (tgt := 72) rfl h (fun h => ?_) (fun h => ?_)
  · refine lv_iload_n hx hb dX8_offAsked_72 rfl (lv_at hl 1 rfl) ?_
    exact hret _ _ _ _ _ _ rx2 h hw dX8_offAsked_73
  · refine lv_aload_n hx hb dX8_offAsked_15 rfl (lv_at hl 0 rfl) ?_
    refine yg_8_38 X hw dX8_offAsked_16 ?_
    refine lv_aload_n hx hb dX8_offAsked_19 rfl (lv_at hl 0 rfl) ?_
    refine yg_8_38 X hw dX8_offAsked_20 ?_
    refine lv_iload_n hx hb dX8_offAsked_23 rfl (lv_at hl 2 rfl) ?_
    refine ycI (n := 1) (e_7_left rx3 h) 7 6 (r := (RX7, TX7, 9)) rfl yG_8_87 yD_7_left X hw rfl yGo_7 (Nat.le_trans (Nat.le_of_ble_eq_true rfl) hRf) (Nat.le_trans (Nat.le_of_ble_eq_true rfl) hRl) rfl hl.1 (Nat.le_of_ble_eq_true rfl) rfl dX8_offAsked_24 (fun v2 u H locs rv2 h hw => ?_)
    refine ycI (n := 1) (e_7_isName rv2 h) 7 6 (r := (RX7, TX7, 9)) rfl yG_8_193 yD_7_isName X hw rfl yGo_7 (Nat.le_trans (Nat.le_of_ble_eq_true rfl) hRf) (Nat.le_trans (Nat.le_of_ble_eq_true rfl) hRl) rfl hl.1 (Nat.le_of_ble_eq_true rfl) rfl dX8_offAsked_27 (fun v3 u H locs rv3 h hw => ?_)
    refine k_if_ne hx hb rv3 dX8_offAsked_30 (tgt := 35) rfl h (fun h => ?_) (fun h => ?_)
    · refine lv_aload_n hx hb dX8_offAsked_35 rfl (lv_at hl 0 rfl) ?_
      refine yg_8_42 X hw dX8_offAsked_36 ?_
      refine lv_aload_n hx hb dX8_offAsked_39 rfl (lv_at hl 0 rfl) ?_
      refine yg_8_38 X hw dX8_offAsked_40 ?_
      refine lv_iload_n hx hb dX8_offAsked_43 rfl (lv_at hl 2 rfl) ?_
      refine ycI (n := 1) (e_7_left rx3 h) 7 6 (r := (RX7, TX7, 9)) rfl yG_8_87 yD_7_left X hw rfl yGo_7 (Nat.le_trans (Nat.le_of_ble_eq_true rfl) hRf) (Nat.le_trans (Nat.le_of_ble_eq_true rfl) hRl) rfl hl.1 (Nat.le_of_ble_eq_true rfl) rfl dX8_offAsked_44 (fun v4 u H locs rv4 h hw => ?_)
      refine ycI (n := 1) (e_0_theoremOf rv4 h) 0 0 (r := (RX0, TX0, 21)) rfl yG_8_138 yD_0_theoremOf X hw rfl yGo_0 (Nat.le_trans (Nat.le_of_ble_eq_true rfl) hRf) (Nat.le_trans (Nat.le_of_ble_eq_true rfl) hRl) rfl hl.1 (Nat.le_of_ble_eq_true rfl) rfl dX8_offAsked_47 (fun v5 u H locs rv5 h hw => ?_)
      refine lv_iconst hx hb dX8_offAsked_50 (v := jI (-1)) rfl ?_
      refine k_icmp_ne hx hb rv5 (by decide) dX8_offAsked_51 (tgt := 58) rfl h (fun h => ?_) (fun h => ?_)
      · refine lv_iload_n hx hb dX8_offAsked_58 rfl (lv_at hl 1 rfl) ?_
        exact f_8_offAsked_59 X hRf hRl hret hR4 rx3 rx2 hw (lv_sub hl [0, 2] rfl) h
      · refine lv_iconst hx hb dX8_offAsked_54 (v := jI 3) rfl ?_
        refine lv_goto hx hb dX8_offAsked_55 (tgt := 59) rfl ?_
        exact f_8_offAsked_59 X hRf hRl hret hR4 rx3 (by decide) hw (lv_sub hl [0, 2] rfl) h
    · refine lv_iconst hx hb dX8_offAsked_33 (v := jI 2) rfl ?_
      exact hret _ _ _ _ _ _ (by decide) h hw dX8_offAsked_34

def v_8_offAsked (a0 : Int) (Q : Int → iST → Prop) (u : iST) : Prop :=
  v_8_offAsked_4 Q 0 a0 u
set_option maxRecDepth 20000 in
set_option maxHeartbeats 4000000 in
theorem f_8_offAsked_s (X : yX RX8 p m c cX8_offAsked 4 s args D ca ad A) (hRf : 1 ≤ R.frames) (hRl : 22 ≤ R.locals) {Q : Int → iST → Prop} (hret : ∀ (v : Int) (u : iST) (H : Heap) (locs : List Loc) (ls : Array Slot) (pc : Nat), inR v → Q v u → yW D ca A ad s H locs u → decode cX8_offAsked pc = .ok (.ireturn, 1) → W p l e R s m args below meth c H locs 0 0 Qf (F0 m pc ls [.int (jI v)])) {a0 : Int} (ra0 : inR a0) (hw : yW D ca A ad s H locs u) (hl : lv_has ls 4 [(0, .ref (ad 0 7)), (1, .int (jI a0))]) (h : v_8_offAsked a0 Q u) : W p l e R s m args below meth c H locs 0 0 Qf (F0 m 0 ls []) := by
  have hx := X.1.1
  have hb := X.1.2.1
  unfold v_8_offAsked at h
  refine lv_iconst hx hb dX8_offAsked_0 (v := jI 0) rfl ?_
  refine lv_istore_n hx hb dX8_offAsked_1 rfl hl (by decide) rfl (fun ls hl => ?_)
  have hl : lv_has ls 4 [(2, .int (jI 0)), (0, .ref (ad 0 7)), (1, .int (jI a0))] := hl
  refine lv_iload_n hx hb dX8_offAsked_2 rfl (lv_at hl 2 rfl) ?_
  refine lv_istore_n hx hb dX8_offAsked_3 rfl hl (by decide) rfl (fun ls hl => ?_)
  have hl : lv_has ls 4 [(3, .int (jI a0)), (2, .int (jI 0)), (0, .ref (ad 0 7)), (1, .int (jI a0))] := hl
  exact f_8_offAsked_4 X hRf hRl hret (by decide) ra0 hw (lv_sub hl [2, 1, 0] rfl) h

end
theorem e_8_offAsked {l : Launch} {a0 : Int} (ra0 : inR a0) {Q : Int → iST → Prop} {u : iST} (h : v_8_offAsked a0 Q u) : yMI l yX8_offAsked (.code yX8_offAsked cX8_offAsked 4 (some .int) :: wsN) { frames := 1, cells := 0, slots := 0, locals := 22 } (fun ad => [.ref (ad 0 7), .int (jI a0)]) Q u := yMI_of (own := RX8) rfl (by decide +kernel) (fun _ => Nat.le_of_ble_eq_true rfl) (fun X hRf hRl hret hw hl => f_8_offAsked_s X hRf hRl hret ra0 hw hl h)

/-! ProofHouse$Schemes.hintsAsked -/
theorem dX8_hintsAsked_0 : decode cX8_hintsAsked 0 = .ok (.iconst 0, 1) := by decide +kernel
theorem dX8_hintsAsked_1 : decode cX8_hintsAsked 1 = .ok (.istore_n 2, 1) := by decide +kernel
theorem dX8_hintsAsked_2 : decode cX8_hintsAsked 2 = .ok (.aload_n 0, 1) := by decide +kernel
theorem dX8_hintsAsked_3 : decode cX8_hintsAsked 3 = .ok (.iconst (-1), 1) := by decide +kernel
theorem dX8_hintsAsked_4 : decode cX8_hintsAsked 4 = .ok (.putfield 35, 3) := by decide +kernel
theorem dX8_hintsAsked_7 : decode cX8_hintsAsked 7 = .ok (.iconst 0, 1) := by decide +kernel
theorem dX8_hintsAsked_8 : decode cX8_hintsAsked 8 = .ok (.istore_n 3, 1) := by decide +kernel
theorem dX8_hintsAsked_9 : decode cX8_hintsAsked 9 = .ok (.iload_n 1, 1) := by decide +kernel
theorem dX8_hintsAsked_10 : decode cX8_hintsAsked 10 = .ok (.istore 4, 2) := by decide +kernel
theorem dX8_hintsAsked_12 : decode cX8_hintsAsked 12 = .ok (.aload_n 0, 1) := by decide +kernel
theorem dX8_hintsAsked_13 : decode cX8_hintsAsked 13 = .ok (.getfield 38, 3) := by decide +kernel
theorem dX8_hintsAsked_16 : decode cX8_hintsAsked 16 = .ok (.iload 4, 2) := by decide +kernel
theorem dX8_hintsAsked_18 : decode cX8_hintsAsked 18 = .ok (.invokevirtual 84, 3) := by decide +kernel
theorem dX8_hintsAsked_21 : decode cX8_hintsAsked 21 = .ok (.ifCond .eq 197, 3) := by decide +kernel
theorem dX8_hintsAsked_24 : decode cX8_hintsAsked 24 = .ok (.aload_n 0, 1) := by decide +kernel
theorem dX8_hintsAsked_25 : decode cX8_hintsAsked 25 = .ok (.getfield 38, 3) := by decide +kernel
theorem dX8_hintsAsked_28 : decode cX8_hintsAsked 28 = .ok (.iload 4, 2) := by decide +kernel
theorem dX8_hintsAsked_30 : decode cX8_hintsAsked 30 = .ok (.invokevirtual 87, 3) := by decide +kernel
theorem dX8_hintsAsked_33 : decode cX8_hintsAsked 33 = .ok (.istore 5, 2) := by decide +kernel
theorem dX8_hintsAsked_35 : decode cX8_hintsAsked 35 = .ok (.aload_n 0, 1) := by decide +kernel
theorem dX8_hintsAsked_36 : decode cX8_hintsAsked 36 = .ok (.getfield 38, 3) := by decide +kernel
theorem dX8_hintsAsked_39 : decode cX8_hintsAsked 39 = .ok (.iload 5, 2) := by decide +kernel
theorem dX8_hintsAsked_41 : decode cX8_hintsAsked 41 = .ok (.invokevirtual 176, 3) := by decide +kernel
theorem dX8_hintsAsked_44 : decode cX8_hintsAsked 44 = .ok (.istore 6, 2) := by decide +kernel
theorem dX8_hintsAsked_46 : decode cX8_hintsAsked 46 = .ok (.iload 6, 2) := by decide +kernel
theorem dX8_hintsAsked_48 : decode cX8_hintsAsked 48 = .ok (.iconst 2, 1) := by decide +kernel
theorem dX8_hintsAsked_49 : decode cX8_hintsAsked 49 = .ok (.if_icmp .ge 7, 3) := by decide +kernel
theorem dX8_hintsAsked_52 : decode cX8_hintsAsked 52 = .ok (.iconst (-1), 1) := by decide +kernel
theorem dX8_hintsAsked_53 : decode cX8_hintsAsked 53 = .ok (.goto 12, 3) := by decide +kernel
theorem dX8_hintsAsked_56 : decode cX8_hintsAsked 56 = .ok (.aload_n 0, 1) := by decide +kernel
theorem dX8_hintsAsked_57 : decode cX8_hintsAsked 57 = .ok (.getfield 38, 3) := by decide +kernel
theorem dX8_hintsAsked_60 : decode cX8_hintsAsked 60 = .ok (.iload 5, 2) := by decide +kernel
theorem dX8_hintsAsked_62 : decode cX8_hintsAsked 62 = .ok (.invokevirtual 87, 3) := by decide +kernel
theorem dX8_hintsAsked_65 : decode cX8_hintsAsked 65 = .ok (.istore 7, 2) := by decide +kernel
theorem dX8_hintsAsked_67 : decode cX8_hintsAsked 67 = .ok (.iconst 2, 1) := by decide +kernel
theorem dX8_hintsAsked_68 : decode cX8_hintsAsked 68 = .ok (.istore 8, 2) := by decide +kernel
theorem dX8_hintsAsked_70 : decode cX8_hintsAsked 70 = .ok (.iload 7, 2) := by decide +kernel
theorem dX8_hintsAsked_72 : decode cX8_hintsAsked 72 = .ok (.bipush 43, 2) := by decide +kernel
theorem dX8_hintsAsked_74 : decode cX8_hintsAsked 74 = .ok (.if_icmp .ne 44, 3) := by decide +kernel
theorem dX8_hintsAsked_77 : decode cX8_hintsAsked 77 = .ok (.iload 6, 2) := by decide +kernel
theorem dX8_hintsAsked_79 : decode cX8_hintsAsked 79 = .ok (.iconst 2, 1) := by decide +kernel
theorem dX8_hintsAsked_80 : decode cX8_hintsAsked 80 = .ok (.if_icmp .ne 38, 3) := by decide +kernel
theorem dX8_hintsAsked_83 : decode cX8_hintsAsked 83 = .ok (.aload_n 0, 1) := by decide +kernel
theorem dX8_hintsAsked_84 : decode cX8_hintsAsked 84 = .ok (.getfield 35, 3) := by decide +kernel
theorem dX8_hintsAsked_87 : decode cX8_hintsAsked 87 = .ok (.iconst (-1), 1) := by decide +kernel
theorem dX8_hintsAsked_88 : decode cX8_hintsAsked 88 = .ok (.if_icmp .ne 30, 3) := by decide +kernel
theorem dX8_hintsAsked_91 : decode cX8_hintsAsked 91 = .ok (.aload_n 0, 1) := by decide +kernel
theorem dX8_hintsAsked_92 : decode cX8_hintsAsked 92 = .ok (.aload_n 0, 1) := by decide +kernel
theorem dX8_hintsAsked_93 : decode cX8_hintsAsked 93 = .ok (.getfield 38, 3) := by decide +kernel
theorem dX8_hintsAsked_96 : decode cX8_hintsAsked 96 = .ok (.iload 5, 2) := by decide +kernel
theorem dX8_hintsAsked_98 : decode cX8_hintsAsked 98 = .ok (.iconst 1, 1) := by decide +kernel
theorem dX8_hintsAsked_99 : decode cX8_hintsAsked 99 = .ok (.invokevirtual 50, 3) := by decide +kernel
theorem dX8_hintsAsked_102 : decode cX8_hintsAsked 102 = .ok (.putfield 35, 3) := by decide +kernel
theorem dX8_hintsAsked_105 : decode cX8_hintsAsked 105 = .ok (.aload_n 0, 1) := by decide +kernel
theorem dX8_hintsAsked_106 : decode cX8_hintsAsked 106 = .ok (.aload_n 0, 1) := by decide +kernel
theorem dX8_hintsAsked_107 : decode cX8_hintsAsked 107 = .ok (.getfield 35, 3) := by decide +kernel
theorem dX8_hintsAsked_110 : decode cX8_hintsAsked 110 = .ok (.invokevirtual 179, 3) := by decide +kernel
theorem dX8_hintsAsked_113 : decode cX8_hintsAsked 113 = .ok (.istore 8, 2) := by decide +kernel
theorem dX8_hintsAsked_115 : decode cX8_hintsAsked 115 = .ok (.goto 73, 3) := by decide +kernel
theorem dX8_hintsAsked_118 : decode cX8_hintsAsked 118 = .ok (.iload 7, 2) := by decide +kernel
theorem dX8_hintsAsked_120 : decode cX8_hintsAsked 120 = .ok (.bipush 26, 2) := by decide +kernel
theorem dX8_hintsAsked_122 : decode cX8_hintsAsked 122 = .ok (.if_icmp .ne 38, 3) := by decide +kernel
theorem dX8_hintsAsked_125 : decode cX8_hintsAsked 125 = .ok (.aload_n 0, 1) := by decide +kernel
theorem dX8_hintsAsked_126 : decode cX8_hintsAsked 126 = .ok (.aload_n 0, 1) := by decide +kernel
theorem dX8_hintsAsked_127 : decode cX8_hintsAsked 127 = .ok (.getfield 38, 3) := by decide +kernel
theorem dX8_hintsAsked_130 : decode cX8_hintsAsked 130 = .ok (.iload 5, 2) := by decide +kernel
theorem dX8_hintsAsked_132 : decode cX8_hintsAsked 132 = .ok (.iconst 1, 1) := by decide +kernel
theorem dX8_hintsAsked_133 : decode cX8_hintsAsked 133 = .ok (.invokevirtual 50, 3) := by decide +kernel
theorem dX8_hintsAsked_136 : decode cX8_hintsAsked 136 = .ok (.aload_n 0, 1) := by decide +kernel
theorem dX8_hintsAsked_137 : decode cX8_hintsAsked 137 = .ok (.getfield 38, 3) := by decide +kernel
theorem dX8_hintsAsked_140 : decode cX8_hintsAsked 140 = .ok (.aload_n 0, 1) := by decide +kernel
theorem dX8_hintsAsked_141 : decode cX8_hintsAsked 141 = .ok (.getfield 38, 3) := by decide +kernel
theorem dX8_hintsAsked_144 : decode cX8_hintsAsked 144 = .ok (.iload 5, 2) := by decide +kernel
theorem dX8_hintsAsked_146 : decode cX8_hintsAsked 146 = .ok (.invokevirtual 81, 3) := by decide +kernel
theorem dX8_hintsAsked_149 : decode cX8_hintsAsked 149 = .ok (.invokevirtual 81, 3) := by decide +kernel
theorem dX8_hintsAsked_152 : decode cX8_hintsAsked 152 = .ok (.invokevirtual 182, 3) := by decide +kernel
theorem dX8_hintsAsked_155 : decode cX8_hintsAsked 155 = .ok (.istore 8, 2) := by decide +kernel
theorem dX8_hintsAsked_157 : decode cX8_hintsAsked 157 = .ok (.goto 31, 3) := by decide +kernel
theorem dX8_hintsAsked_160 : decode cX8_hintsAsked 160 = .ok (.iload 7, 2) := by decide +kernel
theorem dX8_hintsAsked_162 : decode cX8_hintsAsked 162 = .ok (.bipush 24, 2) := by decide +kernel
theorem dX8_hintsAsked_164 : decode cX8_hintsAsked 164 = .ok (.if_icmp .ne 24, 3) := by decide +kernel
theorem dX8_hintsAsked_167 : decode cX8_hintsAsked 167 = .ok (.iload_n 3, 1) := by decide +kernel
theorem dX8_hintsAsked_168 : decode cX8_hintsAsked 168 = .ok (.ifCond .ne 20, 3) := by decide +kernel
theorem dX8_hintsAsked_171 : decode cX8_hintsAsked 171 = .ok (.iconst 1, 1) := by decide +kernel
theorem dX8_hintsAsked_172 : decode cX8_hintsAsked 172 = .ok (.istore_n 3, 1) := by decide +kernel
theorem dX8_hintsAsked_173 : decode cX8_hintsAsked 173 = .ok (.aload_n 0, 1) := by decide +kernel
theorem dX8_hintsAsked_174 : decode cX8_hintsAsked 174 = .ok (.aload_n 0, 1) := by decide +kernel
theorem dX8_hintsAsked_175 : decode cX8_hintsAsked 175 = .ok (.getfield 38, 3) := by decide +kernel
theorem dX8_hintsAsked_178 : decode cX8_hintsAsked 178 = .ok (.iload 5, 2) := by decide +kernel
theorem dX8_hintsAsked_180 : decode cX8_hintsAsked 180 = .ok (.invokevirtual 81, 3) := by decide +kernel
theorem dX8_hintsAsked_183 : decode cX8_hintsAsked 183 = .ok (.invokevirtual 185, 3) := by decide +kernel
theorem dX8_hintsAsked_186 : decode cX8_hintsAsked 186 = .ok (.istore 8, 2) := by decide +kernel
theorem dX8_hintsAsked_188 : decode cX8_hintsAsked 188 = .ok (.iload 8, 2) := by decide +kernel
theorem dX8_hintsAsked_190 : decode cX8_hintsAsked 190 = .ok (.iconst 2, 1) := by decide +kernel
theorem dX8_hintsAsked_191 : decode cX8_hintsAsked 191 = .ok (.if_icmp .ne 6, 3) := by decide +kernel
theorem dX8_hintsAsked_194 : decode cX8_hintsAsked 194 = .ok (.iload 8, 2) := by decide +kernel
theorem dX8_hintsAsked_196 : decode cX8_hintsAsked 196 = .ok (.ireturn, 1) := by decide +kernel
theorem dX8_hintsAsked_197 : decode cX8_hintsAsked 197 = .ok (.iload_n 2, 1) := by decide +kernel
theorem dX8_hintsAsked_198 : decode cX8_hintsAsked 198 = .ok (.iload 8, 2) := by decide +kernel
theorem dX8_hintsAsked_200 : decode cX8_hintsAsked 200 = .ok (.invokestatic 188, 3) := by decide +kernel
theorem dX8_hintsAsked_203 : decode cX8_hintsAsked 203 = .ok (.istore_n 2, 1) := by decide +kernel
theorem dX8_hintsAsked_204 : decode cX8_hintsAsked 204 = .ok (.aload_n 0, 1) := by decide +kernel
theorem dX8_hintsAsked_205 : decode cX8_hintsAsked 205 = .ok (.getfield 38, 3) := by decide +kernel
theorem dX8_hintsAsked_208 : decode cX8_hintsAsked 208 = .ok (.iload 4, 2) := by decide +kernel
theorem dX8_hintsAsked_210 : decode cX8_hintsAsked 210 = .ok (.invokevirtual 81, 3) := by decide +kernel
theorem dX8_hintsAsked_213 : decode cX8_hintsAsked 213 = .ok (.istore 4, 2) := by decide +kernel
theorem dX8_hintsAsked_215 : decode cX8_hintsAsked 215 = .ok (.goto (-203), 3) := by decide +kernel
theorem dX8_hintsAsked_218 : decode cX8_hintsAsked 218 = .ok (.iload_n 2, 1) := by decide +kernel
theorem dX8_hintsAsked_219 : decode cX8_hintsAsked 219 = .ok (.ireturn, 1) := by decide +kernel

section
variable {p : Program} {l : Launch} {e : Env} {R : Room} {s : State} {m : MethodId} {args : Array Value} {below : List Frame} {meth : Method} {c : Code} {H : Heap} {locs : List Loc} {Qf : State → Prop}
variable {ls : Array Slot} {D : va_G} {ca : Nat → ClassId} {A : Nat → Prop} {ad : Nat → Nat → Nat} {u : iST}
def v_8_hintsAsked_188 (R12 : Int → Int → Int → iST → Prop) (Q : Int → iST → Prop) (x2 : Int) (x3 : Int) (x4 : Int) (x8 : Int) (u : iST) : Prop :=
  br (x8 ≠ 2) (
    rd (if x2 < x8 then x8 else x2) (fun v5 => 
    v_7_right x4 (fun v6 u => 
    R12 v5 x3 v6 u) u)) (
    Q x8 u)
set_option maxRecDepth 20000 in
set_option maxHeartbeats 4000000 in
theorem f_8_hintsAsked_188 (X : yX RX8 p m c cX8_hintsAsked 9 s args D ca ad A) (hRf : 5 ≤ R.frames) (hRl : 123 ≤ R.locals) {Q : Int → iST → Prop} (hret : ∀ (v : Int) (u : iST) (H : Heap) (locs : List Loc) (ls : Array Slot) (pc : Nat), inR v → Q v u → yW D ca A ad s H locs u → decode cX8_hintsAsked pc = .ok (.ireturn, 1) → W p l e R s m args below meth c H locs 0 0 Qf (F0 m pc ls [.int (jI v)])) {R12 : Int → Int → Int → iST → Prop} (hR12 : ∀ (x2 : Int) (x3 : Int) (x4 : Int) (u : iST) (H : Heap) (locs : List Loc) (ls : Array Slot), inR x2 → inR x3 → inR x4 → yW D ca A ad s H locs u → lv_has ls 9 [(0, .ref (ad 0 7)), (2, .int (jI x2)), (3, .int (jI x3)), (4, .int (jI x4))] → R12 x2 x3 x4 u → W p l e R s m args below meth c H locs 0 0 Qf (F0 m 12 ls [])) {x2 x3 x4 x8 : Int} (rx2 : inR x2) (rx3 : inR x3) (rx4 : inR x4) (rx8 : inR x8) (hw : yW D ca A ad s H locs u) (hl : lv_has ls 9 [(0, .ref (ad 0 7)), (2, .int (jI x2)), (3, .int (jI x3)), (4, .int (jI x4)), (8, .int (jI x8))]) (h : v_8_hintsAsked_188 R12 Q x2 x3 x4 x8 u) : W p l e R s m args below meth c H locs 0 0 Qf (F0 m 188 ls []) := by
  have hx := X.1.1
  have hb := X.1.2.1
  unfold v_8_hintsAsked_188 at h
  refine lv_iload hx hb dX8_hintsAsked_188 (lv_at hl 4 rfl) ?_
  refine lv_iconst hx hb dX8_hintsAsked_190 (v := jI 2) rfl ?_
  refine k_icmp_ne hx hb rx8 (by decide) dX8_hintsAsked_191 (tgt := 197) rfl h (fun h => ?_) (fun h => ?_)
  · refine lv_iload_n hx hb dX8_hintsAsked_197 rfl (lv_at hl 1 rfl) ?_
    refine lv_iload hx hb dX8_hintsAsked_198 (lv_at hl 4 rfl) ?_
    refine yMmax 188 rx2 rx8 yJ_6 X hl.1 (Nat.le_trans (Nat.le_of_ble_eq_true rfl) hRf) (Nat.le_trans (Nat.le_of_ble_eq_true rfl) hRl) dX8_hintsAsked_200 h (fun v5 rv5 h => ?_)
    refine lv_istore_n hx hb dX8_hintsAsked_203 rfl hl (by decide) rfl (fun ls hl => ?_)
    have hl : lv_has ls 9 [(2, .int (jI v5)), (0, .ref (ad 0 7)), (3, .int (jI x3)), (4, .int (jI x4)), (8, .int (jI x8))] := hl
    refine lv_aload_n hx hb dX8_hintsAsked_204 rfl (lv_at hl 1 rfl) ?_
    refine yg_8_38 X hw dX8_hintsAsked_205 ?_
    refine lv_iload hx hb dX8_hintsAsked_208 (lv_at hl 3 rfl) ?_
    refine ycI (n := 1) (e_7_right rx4 h) 7 6 (r := (RX7, TX7, 9)) rfl yG_8_81 yD_7_right X hw rfl yGo_7 (Nat.le_trans (Nat.le_of_ble_eq_true rfl) hRf) (Nat.le_trans (Nat.le_of_ble_eq_true rfl) hRl) rfl hl.1 (Nat.le_of_ble_eq_true rfl) rfl dX8_hintsAsked_210 (fun v6 u H locs rv6 h hw => ?_)
    refine lv_istore hx hb dX8_hintsAsked_213 hl (by decide) rfl (fun ls hl => ?_)
    have hl : lv_has ls 9 [(4, .int (jI v6)), (2, .int (jI v5)), (0, .ref (ad 0 7)), (3, .int (jI x3)), (8, .int (jI x8))] := hl
    refine lv_goto hx hb dX8_hintsAsked_215 (tgt := 12) rfl ?_
    exact hR12 _ _ _ _ H locs ls rv5 rx3 rv6 hw (lv_sub hl [2, 1, 3, 0] rfl) h
  · refine lv_iload hx hb dX8_hintsAsked_194 (lv_at hl 4 rfl) ?_
    exact hret _ _ _ _ _ _ rx8 h hw dX8_hintsAsked_196

def v_8_hintsAsked_118 (R12 : Int → Int → Int → iST → Prop) (Q : Int → iST → Prop) (x2 : Int) (x3 : Int) (x4 : Int) (x5 : Int) (x7 : Int) (x8 : Int) (u : iST) : Prop :=
  br (x7 ≠ 26) (
    br (x7 ≠ 24) (
      v_8_hintsAsked_188 R12 Q x2 x3 x4 x8 u) (
      br (x3 ≠ 0) (
        v_8_hintsAsked_188 R12 Q x2 x3 x4 x8 u) (
        v_7_right x5 (fun v7 u => 
        v_8_offAsked v7 (fun v8 u => 
        v_8_hintsAsked_188 R12 Q x2 1 x4 v8 u) u) u))) (
    v_7_item x5 1 (fun v9 u => 
    v_7_right x5 (fun v10 u => 
    v_7_right v10 (fun v11 u => 
    v_8_useAsked v9 v11 (fun v12 u => 
    v_8_hintsAsked_188 R12 Q x2 x3 x4 v12 u) u) u) u) u)
set_option maxRecDepth 20000 in
set_option maxHeartbeats 4000000 in
theorem f_8_hintsAsked_118 (X : yX RX8 p m c cX8_hintsAsked 9 s args D ca ad A) (hRf : 5 ≤ R.frames) (hRl : 123 ≤ R.locals) {Q : Int → iST → Prop} (hret : ∀ (v : Int) (u : iST) (H : Heap) (locs : List Loc) (ls : Array Slot) (pc : Nat), inR v → Q v u → yW D ca A ad s H locs u → decode cX8_hintsAsked pc = .ok (.ireturn, 1) → W p l e R s m args below meth c H locs 0 0 Qf (F0 m pc ls [.int (jI v)])) {R12 : Int → Int → Int → iST → Prop} (hR12 : ∀ (x2 : Int) (x3 : Int) (x4 : Int) (u : iST) (H : Heap) (locs : List Loc) (ls : Array Slot), inR x2 → inR x3 → inR x4 → yW D ca A ad s H locs u → lv_has ls 9 [(0, .ref (ad 0 7)), (2, .int (jI x2)), (3, .int (jI x3)), (4, .int (jI x4))] → R12 x2 x3 x4 u → W p l e R s m args below meth c H locs 0 0 Qf (F0 m 12 ls [])) {x2 x3 x4 x5 x7 x8 : Int} (rx2 : inR x2) (rx3 : inR x3) (rx4 : inR x4) (rx5 : inR x5) (rx7 : inR x7) (rx8 : inR x8) (hw : yW D ca A ad s H locs u) (hl : lv_has ls 9 [(0, .ref (ad 0 7)), (2, .int (jI x2)), (3, .int (jI x3)), (4, .int (jI x4)), (5, .int (jI x5)), (7, .int (jI x7)), (8, .int (jI x8))]) (h : v_8_hintsAsked_118 R12 Q x2 x3 x4 x5 x7 x8 u) : W p l e R s m args below meth c H locs 0 0 Qf (F0 m 118 ls []) := by
  have hx := X.1.1
  have hb := X.1.2.1
  unfold v_8_hintsAsked_118 at h
  refine lv_iload hx hb dX8_hintsAsked_118 (lv_at hl 5 rfl) ?_
  refine lv_bipush hx hb dX8_hintsAsked_120 (v := jI 26) rfl ?_
  refine k_icmp_ne hx hb rx7 (by decide) dX8_hintsAsked_122 (tgt := 160) rfl h (fun h => ?_) (fun h => ?_)
  · refine lv_iload hx hb dX8_hintsAsked_160 (lv_at hl 5 rfl) ?_
    refine lv_bipush hx hb dX8_hintsAsked_162 (v := jI 24) rfl ?_
    refine k_icmp_ne hx hb rx7 (by decide) dX8_hintsAsked_164 (tgt := 188) rfl h (fun h => ?_) (fun h => ?_)
    · exact f_8_hintsAsked_188 X hRf hRl hret hR12 rx2 rx3 rx4 rx8 hw (lv_sub hl [0, 1, 2, 3, 6] rfl) h
    · refine lv_iload_n hx hb dX8_hintsAsked_167 rfl (lv_at hl 2 rfl) ?_
      refine k_if_ne hx hb rx3 dX8_hintsAsked_168 (tgt := 188) rfl h (fun h => ?_) (fun h => ?_)
      · exact f_8_hintsAsked_188 X hRf hRl hret hR12 rx2 rx3 rx4 rx8 hw (lv_sub hl [0, 1, 2, 3, 6] rfl) h
      · refine lv_iconst hx hb dX8_hintsAsked_171 (v := jI 1) rfl ?_
        refine lv_istore_n hx hb dX8_hintsAsked_172 rfl hl (by decide) rfl (fun ls hl => ?_)
        have hl : lv_has ls 9 [(3, .int (jI 1)), (0, .ref (ad 0 7)), (2, .int (jI x2)), (4, .int (jI x4)), (5, .int (jI x5)), (7, .int (jI x7)), (8, .int (jI x8))] := hl
        refine lv_aload_n hx hb dX8_hintsAsked_173 rfl (lv_at hl 1 rfl) ?_
        refine lv_aload_n hx hb dX8_hintsAsked_174 rfl (lv_at hl 1 rfl) ?_
        refine yg_8_38 X hw dX8_hintsAsked_175 ?_
        refine lv_iload hx hb dX8_hintsAsked_178 (lv_at hl 4 rfl) ?_
        refine ycI (n := 1) (e_7_right rx5 h) 7 6 (r := (RX7, TX7, 9)) rfl yG_8_81 yD_7_right X hw rfl yGo_7 (Nat.le_trans (Nat.le_of_ble_eq_true rfl) hRf) (Nat.le_trans (Nat.le_of_ble_eq_true rfl) hRl) rfl hl.1 (Nat.le_of_ble_eq_true rfl) rfl dX8_hintsAsked_180 (fun v7 u H locs rv7 h hw => ?_)
        refine ycI (n := 1) (e_8_offAsked rv7 h) 8 7 (r := (RX8, TX8, 11)) rfl yG_8_185 yD_8_offAsked X hw rfl yGo_8 (Nat.le_trans (Nat.le_of_ble_eq_true rfl) hRf) (Nat.le_trans (Nat.le_of_ble_eq_true rfl) hRl) rfl hl.1 (Nat.le_of_ble_eq_true rfl) rfl dX8_hintsAsked_183 (fun v8 u H locs rv8 h hw => ?_)
        refine lv_istore hx hb dX8_hintsAsked_186 hl (by decide) rfl (fun ls hl => ?_)
        have hl : lv_has ls 9 [(8, .int (jI v8)), (3, .int (jI 1)), (0, .ref (ad 0 7)), (2, .int (jI x2)), (4, .int (jI x4)), (5, .int (jI x5)), (7, .int (jI x7))] := hl
        exact f_8_hintsAsked_188 X hRf hRl hret hR12 rx2 (by decide) rx4 rv8 hw (lv_sub hl [2, 3, 1, 4, 0] rfl) h
  · refine lv_aload_n hx hb dX8_hintsAsked_125 rfl (lv_at hl 0 rfl) ?_
    refine lv_aload_n hx hb dX8_hintsAsked_126 rfl (lv_at hl 0 rfl) ?_
    refine yg_8_38 X hw dX8_hintsAsked_127 ?_
    refine lv_iload hx hb dX8_hintsAsked_130 (lv_at hl 4 rfl) ?_
    refine lv_iconst hx hb dX8_hintsAsked_132 (v := jI 1) rfl ?_
    refine ycI (n := 2) (e_7_item rx5 (by decide) h) 7 6 (r := (RX7, TX7, 9)) rfl yG_8_50 yD_7_item X hw rfl yGo_7 (Nat.le_trans (Nat.le_of_ble_eq_true rfl) hRf) (Nat.le_trans (Nat.le_of_ble_eq_true rfl) hRl) rfl hl.1 (Nat.le_of_ble_eq_true rfl) rfl dX8_hintsAsked_133 (fun v9 u H locs rv9 h hw => ?_)
    refine lv_aload_n hx hb dX8_hintsAsked_136 rfl (lv_at hl 0 rfl) ?_
    refine yg_8_38 X hw dX8_hintsAsked_137 ?_
    refine lv_aload_n hx hb dX8_hintsAsked_140 rfl (lv_at hl 0 rfl) ?_
    refine yg_8_38 X hw dX8_hintsAsked_141 ?_
    refine lv_iload hx hb dX8_hintsAsked_144 (lv_at hl 4 rfl) ?_
    refine ycI (n := 1) (e_7_right rx5 h) 7 6 (r := (RX7, TX7, 9)) rfl yG_8_81 yD_7_right X hw rfl yGo_7 (Nat.le_trans (Nat.le_of_ble_eq_true rfl) hRf) (Nat.le_trans (Nat.le_of_ble_eq_true rfl) hRl) rfl hl.1 (Nat.le_of_ble_eq_true rfl) rfl dX8_hintsAsked_146 (fun v10 u H locs rv10 h hw => ?_)
    refine ycI (n := 1) (e_7_right rv10 h) 7 6 (r := (RX7, TX7, 9)) rfl yG_8_81 yD_7_right X hw rfl yGo_7 (Nat.le_trans (Nat.le_of_ble_eq_true rfl) hRf) (Nat.le_trans (Nat.le_of_ble_eq_true rfl) hRl) rfl hl.1 (Nat.le_of_ble_eq_true rfl) rfl dX8_hintsAsked_149 (fun v11 u H locs rv11 h hw => ?_)
    refine ycI (n := 2) (e_8_useAsked rv9 rv11 h) 8 7 (r := (RX8, TX8, 11)) rfl yG_8_182 yD_8_useAsked X hw rfl yGo_8 (Nat.le_trans (Nat.le_of_ble_eq_true rfl) hRf) (Nat.le_trans (Nat.le_of_ble_eq_true rfl) hRl) rfl hl.1 (Nat.le_of_ble_eq_true rfl) rfl dX8_hintsAsked_152 (fun v12 u H locs rv12 h hw => ?_)
    refine lv_istore hx hb dX8_hintsAsked_155 hl (by decide) rfl (fun ls hl => ?_)
    have hl : lv_has ls 9 [(8, .int (jI v12)), (0, .ref (ad 0 7)), (2, .int (jI x2)), (3, .int (jI x3)), (4, .int (jI x4)), (5, .int (jI x5)), (7, .int (jI x7))] := hl
    refine lv_goto hx hb dX8_hintsAsked_157 (tgt := 188) rfl ?_
    exact f_8_hintsAsked_188 X hRf hRl hret hR12 rx2 rx3 rx4 rv12 hw (lv_sub hl [1, 2, 3, 4, 0] rfl) h

def v_8_hintsAsked_65 (R12 : Int → Int → Int → iST → Prop) (Q : Int → iST → Prop) (x2 : Int) (x3 : Int) (x4 : Int) (x5 : Int) (x6 : Int) (y0 : Int) (u : iST) : Prop :=
  br (y0 ≠ 43) (
    v_8_hintsAsked_118 R12 Q x2 x3 x4 x5 y0 2 u) (
    br (x6 ≠ 2) (
      v_8_hintsAsked_118 R12 Q x2 x3 x4 x5 y0 2 u) (
      rd (u.1 36) (fun v13 => 
      br (v13 ≠ (-1)) (
        v_8_hintsAsked_118 R12 Q x2 x3 x4 x5 y0 2 u) (
        v_7_item x5 1 (fun v14 u => 
        sw (iI u 36 v14) (fun u => 
        rd (u.1 36) (fun v15 => 
        v_8_inductionAsked v15 (fun v16 u => 
        v_8_hintsAsked_188 R12 Q x2 x3 x4 v16 u) u))) u))))
set_option maxRecDepth 20000 in
set_option maxHeartbeats 4000000 in
theorem f_8_hintsAsked_65 (X : yX RX8 p m c cX8_hintsAsked 9 s args D ca ad A) (hRf : 5 ≤ R.frames) (hRl : 123 ≤ R.locals) {Q : Int → iST → Prop} (hret : ∀ (v : Int) (u : iST) (H : Heap) (locs : List Loc) (ls : Array Slot) (pc : Nat), inR v → Q v u → yW D ca A ad s H locs u → decode cX8_hintsAsked pc = .ok (.ireturn, 1) → W p l e R s m args below meth c H locs 0 0 Qf (F0 m pc ls [.int (jI v)])) {R12 : Int → Int → Int → iST → Prop} (hR12 : ∀ (x2 : Int) (x3 : Int) (x4 : Int) (u : iST) (H : Heap) (locs : List Loc) (ls : Array Slot), inR x2 → inR x3 → inR x4 → yW D ca A ad s H locs u → lv_has ls 9 [(0, .ref (ad 0 7)), (2, .int (jI x2)), (3, .int (jI x3)), (4, .int (jI x4))] → R12 x2 x3 x4 u → W p l e R s m args below meth c H locs 0 0 Qf (F0 m 12 ls [])) {x2 x3 x4 x5 x6 y0 : Int} (rx2 : inR x2) (rx3 : inR x3) (rx4 : inR x4) (rx5 : inR x5) (rx6 : inR x6) (ry0 : inR y0) (hw : yW D ca A ad s H locs u) (hl : lv_has ls 9 [(0, .ref (ad 0 7)), (2, .int (jI x2)), (3, .int (jI x3)), (4, .int (jI x4)), (5, .int (jI x5)), (6, .int (jI x6))]) (h : v_8_hintsAsked_65 R12 Q x2 x3 x4 x5 x6 y0 u) : W p l e R s m args below meth c H locs 0 0 Qf (F0 m 65 ls [.int (jI y0)]) := by
  have hx := X.1.1
  have hb := X.1.2.1
  unfold v_8_hintsAsked_65 at h
  refine lv_istore hx hb dX8_hintsAsked_65 hl (by decide) rfl (fun ls hl => ?_)
  have hl : lv_has ls 9 [(7, .int (jI y0)), (0, .ref (ad 0 7)), (2, .int (jI x2)), (3, .int (jI x3)), (4, .int (jI x4)), (5, .int (jI x5)), (6, .int (jI x6))] := hl
  refine lv_iconst hx hb dX8_hintsAsked_67 (v := jI 2) rfl ?_
  refine lv_istore hx hb dX8_hintsAsked_68 hl (by decide) rfl (fun ls hl => ?_)
  have hl : lv_has ls 9 [(8, .int (jI 2)), (7, .int (jI y0)), (0, .ref (ad 0 7)), (2, .int (jI x2)), (3, .int (jI x3)), (4, .int (jI x4)), (5, .int (jI x5)), (6, .int (jI x6))] := hl
  refine lv_iload hx hb dX8_hintsAsked_70 (lv_at hl 1 rfl) ?_
  refine lv_bipush hx hb dX8_hintsAsked_72 (v := jI 43) rfl ?_
  refine k_icmp_ne hx hb ry0 (by decide) dX8_hintsAsked_74 (tgt := 118) rfl h (fun h => ?_) (fun h => ?_)
  · exact f_8_hintsAsked_118 X hRf hRl hret hR12 rx2 rx3 rx4 rx5 ry0 (by decide) hw (lv_sub hl [2, 3, 4, 5, 6, 1, 0] rfl) h
  · refine lv_iload hx hb dX8_hintsAsked_77 (lv_at hl 7 rfl) ?_
    refine lv_iconst hx hb dX8_hintsAsked_79 (v := jI 2) rfl ?_
    refine k_icmp_ne hx hb rx6 (by decide) dX8_hintsAsked_80 (tgt := 118) rfl h (fun h => ?_) (fun h => ?_)
    · exact f_8_hintsAsked_118 X hRf hRl hret hR12 rx2 rx3 rx4 rx5 ry0 (by decide) hw (lv_sub hl [2, 3, 4, 5, 6, 1, 0] rfl) h
    · refine lv_aload_n hx hb dX8_hintsAsked_83 rfl (lv_at hl 2 rfl) ?_
      refine yg_8_35 X hw dX8_hintsAsked_84 h (fun v13 rv13 h => ?_)
      refine lv_iconst hx hb dX8_hintsAsked_87 (v := jI (-1)) rfl ?_
      refine k_icmp_ne hx hb rv13 (by decide) dX8_hintsAsked_88 (tgt := 118) rfl h (fun h => ?_) (fun h => ?_)
      · exact f_8_hintsAsked_118 X hRf hRl hret hR12 rx2 rx3 rx4 rx5 ry0 (by decide) hw (lv_sub hl [2, 3, 4, 5, 6, 1, 0] rfl) h
      · refine lv_aload_n hx hb dX8_hintsAsked_91 rfl (lv_at hl 2 rfl) ?_
        refine lv_aload_n hx hb dX8_hintsAsked_92 rfl (lv_at hl 2 rfl) ?_
        refine yg_8_38 X hw dX8_hintsAsked_93 ?_
        refine lv_iload hx hb dX8_hintsAsked_96 (lv_at hl 6 rfl) ?_
        refine lv_iconst hx hb dX8_hintsAsked_98 (v := jI 1) rfl ?_
        refine ycI (n := 2) (e_7_item rx5 (by decide) h) 7 6 (r := (RX7, TX7, 9)) rfl yG_8_50 yD_7_item X hw rfl yGo_7 (Nat.le_trans (Nat.le_of_ble_eq_true rfl) hRf) (Nat.le_trans (Nat.le_of_ble_eq_true rfl) hRl) rfl hl.1 (Nat.le_of_ble_eq_true rfl) rfl dX8_hintsAsked_99 (fun v14 u H locs rv14 h hw => ?_)
        refine yp_8_35 X hw rv14 dX8_hintsAsked_102 h (fun H locs u hw h => ?_)
        refine lv_aload_n hx hb dX8_hintsAsked_105 rfl (lv_at hl 2 rfl) ?_
        refine lv_aload_n hx hb dX8_hintsAsked_106 rfl (lv_at hl 2 rfl) ?_
        refine yg_8_35 X hw dX8_hintsAsked_107 h (fun v15 rv15 h => ?_)
        refine ycI (n := 1) (e_8_inductionAsked rv15 h) 8 7 (r := (RX8, TX8, 11)) rfl yG_8_179 yD_8_inductionAsked X hw rfl yGo_8 (Nat.le_trans (Nat.le_of_ble_eq_true rfl) hRf) (Nat.le_trans (Nat.le_of_ble_eq_true rfl) hRl) rfl hl.1 (Nat.le_of_ble_eq_true rfl) rfl dX8_hintsAsked_110 (fun v16 u H locs rv16 h hw => ?_)
        refine lv_istore hx hb dX8_hintsAsked_113 hl (by decide) rfl (fun ls hl => ?_)
        have hl : lv_has ls 9 [(8, .int (jI v16)), (7, .int (jI y0)), (0, .ref (ad 0 7)), (2, .int (jI x2)), (3, .int (jI x3)), (4, .int (jI x4)), (5, .int (jI x5)), (6, .int (jI x6))] := hl
        refine lv_goto hx hb dX8_hintsAsked_115 (tgt := 188) rfl ?_
        exact f_8_hintsAsked_188 X hRf hRl hret hR12 rx2 rx3 rx4 rv16 hw (lv_sub hl [2, 3, 4, 5, 0] rfl) h

def v_8_hintsAsked_12b (R12 : Int → Int → Int → iST → Prop) (Q : Int → iST → Prop) (x2 : Int) (x3 : Int) (x4 : Int) (u : iST) : Prop :=
  v_7_isPair x4 (fun v1 u => 
  br (v1 = 0) (
    Q x2 u) (
    v_7_left x4 (fun v2 u => 
    v_7_lengthOf v2 (fun v3 u => 
    br (2 ≤ v3) (
      v_7_left v2 (fun v4 u => 
      v_8_hintsAsked_65 R12 Q x2 x3 x4 v2 v3 v4 u) u) (
      v_8_hintsAsked_65 R12 Q x2 x3 x4 v2 v3 (-1) u)) u) u)) u
def v_8_hintsAsked_12 (Q : Int → iST → Prop) (x2 : Int) (x3 : Int) (x4 : Int) (u : iST) : Prop := ∀ R12 : Int → Int → Int → iST → Prop, (∀ (x2 : Int) (x3 : Int) (x4 : Int) (u : iST), v_8_hintsAsked_12b R12 Q x2 x3 x4 u → R12 x2 x3 x4 u) → R12 x2 x3 x4 u
set_option maxRecDepth 20000 in
set_option maxHeartbeats 4000000 in
theorem f_8_hintsAsked_12 (X : yX RX8 p m c cX8_hintsAsked 9 s args D ca ad A) (hRf : 5 ≤ R.frames) (hRl : 123 ≤ R.locals) {Q : Int → iST → Prop} (hret : ∀ (v : Int) (u : iST) (H : Heap) (locs : List Loc) (ls : Array Slot) (pc : Nat), inR v → Q v u → yW D ca A ad s H locs u → decode cX8_hintsAsked pc = .ok (.ireturn, 1) → W p l e R s m args below meth c H locs 0 0 Qf (F0 m pc ls [.int (jI v)])) {x2 x3 x4 : Int} (rx2 : inR x2) (rx3 : inR x3) (rx4 : inR x4) (hw : yW D ca A ad s H locs u) (hl : lv_has ls 9 [(0, .ref (ad 0 7)), (2, .int (jI x2)), (3, .int (jI x3)), (4, .int (jI x4))]) (h : v_8_hintsAsked_12 Q x2 x3 x4 u) : W p l e R s m args below meth c H locs 0 0 Qf (F0 m 12 ls []) := by
  refine h (fun x2 x3 x4 u => ∀ (H : Heap) (locs : List Loc) (ls : Array Slot), inR x2 → inR x3 → inR x4 → yW D ca A ad s H locs u → lv_has ls 9 [(0, .ref (ad 0 7)), (2, .int (jI x2)), (3, .int (jI x3)), (4, .int (jI x4))] → W p l e R s m args below meth c H locs 0 0 Qf (F0 m 12 ls [])) ?_ H locs ls rx2 rx3 rx4 hw hl
  clear h hl hw rx2 rx3 rx4
  intro x2 x3 x4 u h H locs ls rx2 rx3 rx4 hw hl
  have hR12 : ∀ (x2 : Int) (x3 : Int) (x4 : Int) (u : iST) (H : Heap) (locs : List Loc) (ls : Array Slot), inR x2 → inR x3 → inR x4 → yW D ca A ad s H locs u → lv_has ls 9 [(0, .ref (ad 0 7)), (2, .int (jI x2)), (3, .int (jI x3)), (4, .int (jI x4))] → (fun (x2 : Int) (x3 : Int) (x4 : Int) u => ∀ (H : Heap) (locs : List Loc) (ls : Array Slot), inR x2 → inR x3 → inR x4 → yW D ca A ad s H locs u → lv_has ls 9 [(0, .ref (ad 0 7)), (2, .int (jI x2)), (3, .int (jI x3)), (4, .int (jI x4))] → W p l e R s m args below meth c H locs 0 0 Qf (F0 m 12 ls [])) x2 x3 x4 u → W p l e R s m args below meth c H locs 0 0 Qf (F0 m 12 ls []) := fun x2 x3 x4 u H locs ls rx2 rx3 rx4 hw hl h => h H locs ls rx2 rx3 rx4 hw hl
  have hx := X.1.1
  have hb := X.1.2.1
  unfold v_8_hintsAsked_12b at h
  refine lv_aload_n hx hb dX8_hintsAsked_12 rfl (lv_at hl 0 rfl) ?_
  refine yg_8_38 X hw dX8_hintsAsked_13 ?_
  refine lv_iload hx hb dX8_hintsAsked_16 (lv_at hl 3 rfl) ?_
  refine ycI (n := 1) (e_7_isPair rx4 h) 7 6 (r := (RX7, TX7, 9)) rfl yG_8_84 yD_7_isPair X hw rfl yGo_7 (Nat.le_trans (Nat.le_of_ble_eq_true rfl) hRf) (Nat.le_trans (Nat.le_of_ble_eq_true rfl) hRl) rfl hl.1 (Nat.le_of_ble_eq_true rfl) rfl dX8_hintsAsked_18 (fun v1 u H locs rv1 h hw => ?_)
  refine k_if_eq hx hb rv1 dX8_hintsAsked_21 (tgt := 218) rfl h (fun h => ?_) (fun h => ?_)
  · refine lv_iload_n hx hb dX8_hintsAsked_218 rfl (lv_at hl 1 rfl) ?_
    exact hret _ _ _ _ _ _ rx2 h hw dX8_hintsAsked_219
  · refine lv_aload_n hx hb dX8_hintsAsked_24 rfl (lv_at hl 0 rfl) ?_
    refine yg_8_38 X hw dX8_hintsAsked_25 ?_
    refine lv_iload hx hb dX8_hintsAsked_28 (lv_at hl 3 rfl) ?_
    refine ycI (n := 1) (e_7_left rx4 h) 7 6 (r := (RX7, TX7, 9)) rfl yG_8_87 yD_7_left X hw rfl yGo_7 (Nat.le_trans (Nat.le_of_ble_eq_true rfl) hRf) (Nat.le_trans (Nat.le_of_ble_eq_true rfl) hRl) rfl hl.1 (Nat.le_of_ble_eq_true rfl) rfl dX8_hintsAsked_30 (fun v2 u H locs rv2 h hw => ?_)
    refine lv_istore hx hb dX8_hintsAsked_33 hl (by decide) rfl (fun ls hl => ?_)
    have hl : lv_has ls 9 [(5, .int (jI v2)), (0, .ref (ad 0 7)), (2, .int (jI x2)), (3, .int (jI x3)), (4, .int (jI x4))] := hl
    refine lv_aload_n hx hb dX8_hintsAsked_35 rfl (lv_at hl 1 rfl) ?_
    refine yg_8_38 X hw dX8_hintsAsked_36 ?_
    refine lv_iload hx hb dX8_hintsAsked_39 (lv_at hl 0 rfl) ?_
    refine ycI (n := 1) (e_7_lengthOf rv2 h) 7 6 (r := (RX7, TX7, 9)) rfl yG_8_176 yD_7_lengthOf X hw rfl yGo_7 (Nat.le_trans (Nat.le_of_ble_eq_true rfl) hRf) (Nat.le_trans (Nat.le_of_ble_eq_true rfl) hRl) rfl hl.1 (Nat.le_of_ble_eq_true rfl) rfl dX8_hintsAsked_41 (fun v3 u H locs rv3 h hw => ?_)
    refine lv_istore hx hb dX8_hintsAsked_44 hl (by decide) rfl (fun ls hl => ?_)
    have hl : lv_has ls 9 [(6, .int (jI v3)), (5, .int (jI v2)), (0, .ref (ad 0 7)), (2, .int (jI x2)), (3, .int (jI x3)), (4, .int (jI x4))] := hl
    refine lv_iload hx hb dX8_hintsAsked_46 (lv_at hl 0 rfl) ?_
    refine lv_iconst hx hb dX8_hintsAsked_48 (v := jI 2) rfl ?_
    refine k_icmp_ge hx hb rv3 (by decide) dX8_hintsAsked_49 (tgt := 56) rfl h (fun h => ?_) (fun h => ?_)
    · refine lv_aload_n hx hb dX8_hintsAsked_56 rfl (lv_at hl 2 rfl) ?_
      refine yg_8_38 X hw dX8_hintsAsked_57 ?_
      refine lv_iload hx hb dX8_hintsAsked_60 (lv_at hl 1 rfl) ?_
      refine ycI (n := 1) (e_7_left rv2 h) 7 6 (r := (RX7, TX7, 9)) rfl yG_8_87 yD_7_left X hw rfl yGo_7 (Nat.le_trans (Nat.le_of_ble_eq_true rfl) hRf) (Nat.le_trans (Nat.le_of_ble_eq_true rfl) hRl) rfl hl.1 (Nat.le_of_ble_eq_true rfl) rfl dX8_hintsAsked_62 (fun v4 u H locs rv4 h hw => ?_)
      exact f_8_hintsAsked_65 X hRf hRl hret hR12 rx2 rx3 rx4 rv2 rv3 rv4 hw (lv_sub hl [2, 3, 4, 5, 1, 0] rfl) h
    · refine lv_iconst hx hb dX8_hintsAsked_52 (v := jI (-1)) rfl ?_
      refine lv_goto hx hb dX8_hintsAsked_53 (tgt := 65) rfl ?_
      exact f_8_hintsAsked_65 X hRf hRl hret hR12 rx2 rx3 rx4 rv2 rv3 (by decide) hw (lv_sub hl [2, 3, 4, 5, 1, 0] rfl) h

def v_8_hintsAsked (a0 : Int) (Q : Int → iST → Prop) (u : iST) : Prop :=
  sw (iI u 36 (-1)) (fun u => 
  v_8_hintsAsked_12 Q 0 0 a0 u)
set_option maxRecDepth 20000 in
set_option maxHeartbeats 4000000 in
theorem f_8_hintsAsked_s (X : yX RX8 p m c cX8_hintsAsked 9 s args D ca ad A) (hRf : 5 ≤ R.frames) (hRl : 123 ≤ R.locals) {Q : Int → iST → Prop} (hret : ∀ (v : Int) (u : iST) (H : Heap) (locs : List Loc) (ls : Array Slot) (pc : Nat), inR v → Q v u → yW D ca A ad s H locs u → decode cX8_hintsAsked pc = .ok (.ireturn, 1) → W p l e R s m args below meth c H locs 0 0 Qf (F0 m pc ls [.int (jI v)])) {a0 : Int} (ra0 : inR a0) (hw : yW D ca A ad s H locs u) (hl : lv_has ls 9 [(0, .ref (ad 0 7)), (1, .int (jI a0))]) (h : v_8_hintsAsked a0 Q u) : W p l e R s m args below meth c H locs 0 0 Qf (F0 m 0 ls []) := by
  have hx := X.1.1
  have hb := X.1.2.1
  unfold v_8_hintsAsked at h
  refine lv_iconst hx hb dX8_hintsAsked_0 (v := jI 0) rfl ?_
  refine lv_istore_n hx hb dX8_hintsAsked_1 rfl hl (by decide) rfl (fun ls hl => ?_)
  have hl : lv_has ls 9 [(2, .int (jI 0)), (0, .ref (ad 0 7)), (1, .int (jI a0))] := hl
  refine lv_aload_n hx hb dX8_hintsAsked_2 rfl (lv_at hl 1 rfl) ?_
  refine lv_iconst hx hb dX8_hintsAsked_3 (v := jI (-1)) rfl ?_
  refine yp_8_35 X hw (by decide) dX8_hintsAsked_4 h (fun H locs u hw h => ?_)
  refine lv_iconst hx hb dX8_hintsAsked_7 (v := jI 0) rfl ?_
  refine lv_istore_n hx hb dX8_hintsAsked_8 rfl hl (by decide) rfl (fun ls hl => ?_)
  have hl : lv_has ls 9 [(3, .int (jI 0)), (2, .int (jI 0)), (0, .ref (ad 0 7)), (1, .int (jI a0))] := hl
  refine lv_iload_n hx hb dX8_hintsAsked_9 rfl (lv_at hl 3 rfl) ?_
  refine lv_istore hx hb dX8_hintsAsked_10 hl (by decide) rfl (fun ls hl => ?_)
  have hl : lv_has ls 9 [(4, .int (jI a0)), (3, .int (jI 0)), (2, .int (jI 0)), (0, .ref (ad 0 7)), (1, .int (jI a0))] := hl
  exact f_8_hintsAsked_12 X hRf hRl hret (by decide) (by decide) ra0 hw (lv_sub hl [3, 2, 1, 0] rfl) h

end
theorem e_8_hintsAsked {l : Launch} {a0 : Int} (ra0 : inR a0) {Q : Int → iST → Prop} {u : iST} (h : v_8_hintsAsked a0 Q u) : yMI l yX8_hintsAsked (.code yX8_hintsAsked cX8_hintsAsked 9 (some .int) :: wsN) { frames := 5, cells := 0, slots := 0, locals := 123 } (fun ad => [.ref (ad 0 7), .int (jI a0)]) Q u := yMI_of (own := RX8) rfl (by decide +kernel) (fun _ => Nat.le_of_ble_eq_true rfl) (fun X hRf hRl hret hw hl => f_8_hintsAsked_s X hRf hRl hret ra0 hw hl h)

/-! ProofHouse$Terms.hasVariablesOf -/
theorem dX10_hasVariablesOf_0 : decode cX10_hasVariablesOf 0 = .ok (.aload_n 0, 1) := by decide +kernel
theorem dX10_hasVariablesOf_1 : decode cX10_hasVariablesOf 1 = .ok (.iload_n 1, 1) := by decide +kernel
theorem dX10_hasVariablesOf_2 : decode cX10_hasVariablesOf 2 = .ok (.invokevirtual 149, 3) := by decide +kernel
theorem dX10_hasVariablesOf_5 : decode cX10_hasVariablesOf 5 = .ok (.istore_n 3, 1) := by decide +kernel
theorem dX10_hasVariablesOf_6 : decode cX10_hasVariablesOf 6 = .ok (.iconst 0, 1) := by decide +kernel
theorem dX10_hasVariablesOf_7 : decode cX10_hasVariablesOf 7 = .ok (.istore 4, 2) := by decide +kernel
theorem dX10_hasVariablesOf_9 : decode cX10_hasVariablesOf 9 = .ok (.iload 4, 2) := by decide +kernel
theorem dX10_hasVariablesOf_11 : decode cX10_hasVariablesOf 11 = .ok (.iload_n 3, 1) := by decide +kernel
theorem dX10_hasVariablesOf_12 : decode cX10_hasVariablesOf 12 = .ok (.if_icmp .ge 100, 3) := by decide +kernel
theorem dX10_hasVariablesOf_15 : decode cX10_hasVariablesOf 15 = .ok (.aload_n 0, 1) := by decide +kernel
theorem dX10_hasVariablesOf_16 : decode cX10_hasVariablesOf 16 = .ok (.getfield 55, 3) := by decide +kernel
theorem dX10_hasVariablesOf_19 : decode cX10_hasVariablesOf 19 = .ok (.aload_n 0, 1) := by decide +kernel
theorem dX10_hasVariablesOf_20 : decode cX10_hasVariablesOf 20 = .ok (.getfield 52, 3) := by decide +kernel
theorem dX10_hasVariablesOf_23 : decode cX10_hasVariablesOf 23 = .ok (.iload 4, 2) := by decide +kernel
theorem dX10_hasVariablesOf_25 : decode cX10_hasVariablesOf 25 = .ok (.iaload, 1) := by decide +kernel
theorem dX10_hasVariablesOf_26 : decode cX10_hasVariablesOf 26 = .ok (.invokevirtual 106, 3) := by decide +kernel
theorem dX10_hasVariablesOf_29 : decode cX10_hasVariablesOf 29 = .ok (.ifCond .ne 7, 3) := by decide +kernel
theorem dX10_hasVariablesOf_32 : decode cX10_hasVariablesOf 32 = .ok (.iconst 1, 1) := by decide +kernel
theorem dX10_hasVariablesOf_33 : decode cX10_hasVariablesOf 33 = .ok (.goto 4, 3) := by decide +kernel
theorem dX10_hasVariablesOf_36 : decode cX10_hasVariablesOf 36 = .ok (.iconst 0, 1) := by decide +kernel
theorem dX10_hasVariablesOf_37 : decode cX10_hasVariablesOf 37 = .ok (.istore 5, 2) := by decide +kernel
theorem dX10_hasVariablesOf_39 : decode cX10_hasVariablesOf 39 = .ok (.iload_n 2, 1) := by decide +kernel
theorem dX10_hasVariablesOf_40 : decode cX10_hasVariablesOf 40 = .ok (.istore 6, 2) := by decide +kernel
theorem dX10_hasVariablesOf_42 : decode cX10_hasVariablesOf 42 = .ok (.aload_n 0, 1) := by decide +kernel
theorem dX10_hasVariablesOf_43 : decode cX10_hasVariablesOf 43 = .ok (.getfield 55, 3) := by decide +kernel
theorem dX10_hasVariablesOf_46 : decode cX10_hasVariablesOf 46 = .ok (.iload 6, 2) := by decide +kernel
theorem dX10_hasVariablesOf_48 : decode cX10_hasVariablesOf 48 = .ok (.invokevirtual 80, 3) := by decide +kernel
theorem dX10_hasVariablesOf_51 : decode cX10_hasVariablesOf 51 = .ok (.ifCond .eq 48, 3) := by decide +kernel
theorem dX10_hasVariablesOf_54 : decode cX10_hasVariablesOf 54 = .ok (.iload 5, 2) := by decide +kernel
theorem dX10_hasVariablesOf_56 : decode cX10_hasVariablesOf 56 = .ok (.ifCond .ne 43, 3) := by decide +kernel
theorem dX10_hasVariablesOf_59 : decode cX10_hasVariablesOf 59 = .ok (.aload_n 0, 1) := by decide +kernel
theorem dX10_hasVariablesOf_60 : decode cX10_hasVariablesOf 60 = .ok (.getfield 55, 3) := by decide +kernel
theorem dX10_hasVariablesOf_63 : decode cX10_hasVariablesOf 63 = .ok (.iload 6, 2) := by decide +kernel
theorem dX10_hasVariablesOf_65 : decode cX10_hasVariablesOf 65 = .ok (.invokevirtual 72, 3) := by decide +kernel
theorem dX10_hasVariablesOf_68 : decode cX10_hasVariablesOf 68 = .ok (.aload_n 0, 1) := by decide +kernel
theorem dX10_hasVariablesOf_69 : decode cX10_hasVariablesOf 69 = .ok (.getfield 52, 3) := by decide +kernel
theorem dX10_hasVariablesOf_72 : decode cX10_hasVariablesOf 72 = .ok (.iload 4, 2) := by decide +kernel
theorem dX10_hasVariablesOf_74 : decode cX10_hasVariablesOf 74 = .ok (.iaload, 1) := by decide +kernel
theorem dX10_hasVariablesOf_75 : decode cX10_hasVariablesOf 75 = .ok (.if_icmp .ne 7, 3) := by decide +kernel
theorem dX10_hasVariablesOf_78 : decode cX10_hasVariablesOf 78 = .ok (.iconst 1, 1) := by decide +kernel
theorem dX10_hasVariablesOf_79 : decode cX10_hasVariablesOf 79 = .ok (.goto 4, 3) := by decide +kernel
theorem dX10_hasVariablesOf_82 : decode cX10_hasVariablesOf 82 = .ok (.iconst 0, 1) := by decide +kernel
theorem dX10_hasVariablesOf_83 : decode cX10_hasVariablesOf 83 = .ok (.istore 5, 2) := by decide +kernel
theorem dX10_hasVariablesOf_85 : decode cX10_hasVariablesOf 85 = .ok (.aload_n 0, 1) := by decide +kernel
theorem dX10_hasVariablesOf_86 : decode cX10_hasVariablesOf 86 = .ok (.getfield 55, 3) := by decide +kernel
theorem dX10_hasVariablesOf_89 : decode cX10_hasVariablesOf 89 = .ok (.iload 6, 2) := by decide +kernel
theorem dX10_hasVariablesOf_91 : decode cX10_hasVariablesOf 91 = .ok (.invokevirtual 77, 3) := by decide +kernel
theorem dX10_hasVariablesOf_94 : decode cX10_hasVariablesOf 94 = .ok (.istore 6, 2) := by decide +kernel
theorem dX10_hasVariablesOf_96 : decode cX10_hasVariablesOf 96 = .ok (.goto (-54), 3) := by decide +kernel
theorem dX10_hasVariablesOf_99 : decode cX10_hasVariablesOf 99 = .ok (.iload 5, 2) := by decide +kernel
theorem dX10_hasVariablesOf_101 : decode cX10_hasVariablesOf 101 = .ok (.ifCond .ne 5, 3) := by decide +kernel
theorem dX10_hasVariablesOf_104 : decode cX10_hasVariablesOf 104 = .ok (.iconst 0, 1) := by decide +kernel
theorem dX10_hasVariablesOf_105 : decode cX10_hasVariablesOf 105 = .ok (.ireturn, 1) := by decide +kernel
theorem dX10_hasVariablesOf_106 : decode cX10_hasVariablesOf 106 = .ok (.iinc 4 1, 3) := by decide +kernel
theorem dX10_hasVariablesOf_109 : decode cX10_hasVariablesOf 109 = .ok (.goto (-100), 3) := by decide +kernel
theorem dX10_hasVariablesOf_112 : decode cX10_hasVariablesOf 112 = .ok (.iconst 1, 1) := by decide +kernel
theorem dX10_hasVariablesOf_113 : decode cX10_hasVariablesOf 113 = .ok (.ireturn, 1) := by decide +kernel

section
variable {p : Program} {l : Launch} {e : Env} {R : Room} {s : State} {m : MethodId} {args : Array Value} {below : List Frame} {meth : Method} {c : Code} {H : Heap} {locs : List Loc} {Qf : State → Prop}
variable {ls : Array Slot} {D : va_G} {ca : Nat → ClassId} {A : Nat → Prop} {ad : Nat → Nat → Nat} {u : iST}
def v_10_hasVariablesOf_99 (R9 : Int → Int → Int → iST → Prop) (Q : Int → iST → Prop) (x2 : Int) (x3 : Int) (x4 : Int) (x5 : Int) (u : iST) : Prop :=
  br (x5 ≠ 0) (
    ov (x4 + 1) (
    R9 x2 x3 (x4 + 1) u)) (
    zt 0 (Q 0 u))
set_option maxRecDepth 20000 in
set_option maxHeartbeats 4000000 in
theorem f_10_hasVariablesOf_99 (X : yX RX10 p m c cX10_hasVariablesOf 7 s args D ca ad A) (hRf : 2 ≤ R.frames) (hRl : 50 ≤ R.locals) {Q : Int → iST → Prop} (hret : ∀ (v : Int) (u : iST) (H : Heap) (locs : List Loc) (ls : Array Slot) (pc : Nat), bz v → Q v u → yW D ca A ad s H locs u → decode cX10_hasVariablesOf pc = .ok (.ireturn, 1) → W p l e R s m args below meth c H locs 0 0 Qf (F0 m pc ls [.int (jI v)])) {R9 : Int → Int → Int → iST → Prop} (hR9 : ∀ (x2 : Int) (x3 : Int) (x4 : Int) (u : iST) (H : Heap) (locs : List Loc) (ls : Array Slot), inR x2 → inR x3 → inR x4 → yW D ca A ad s H locs u → lv_has ls 7 [(0, .ref (ad 0 8)), (2, .int (jI x2)), (3, .int (jI x3)), (4, .int (jI x4))] → R9 x2 x3 x4 u → W p l e R s m args below meth c H locs 0 0 Qf (F0 m 9 ls [])) {x2 x3 x4 x5 : Int} (rx2 : inR x2) (rx3 : inR x3) (rx4 : inR x4) (rx5 : inR x5) (hw : yW D ca A ad s H locs u) (hl : lv_has ls 7 [(0, .ref (ad 0 8)), (2, .int (jI x2)), (3, .int (jI x3)), (4, .int (jI x4)), (5, .int (jI x5))]) (h : v_10_hasVariablesOf_99 R9 Q x2 x3 x4 x5 u) : W p l e R s m args below meth c H locs 0 0 Qf (F0 m 99 ls []) := by
  have hx := X.1.1
  have hb := X.1.2.1
  unfold v_10_hasVariablesOf_99 at h
  refine lv_iload hx hb dX10_hasVariablesOf_99 (lv_at hl 4 rfl) ?_
  refine k_if_ne hx hb rx5 dX10_hasVariablesOf_101 (tgt := 106) rfl h (fun h => ?_) (fun h => ?_)
  · refine k_iinc (k := 3) hx hb dX10_hasVariablesOf_106 hl rfl (by decide) rfl h (fun ls r5 h hl => ?_)
    have hl : lv_has ls 7 [(4, .int (jI (x4 + 1))), (0, .ref (ad 0 8)), (2, .int (jI x2)), (3, .int (jI x3)), (5, .int (jI x5))] := hl
    refine lv_goto hx hb dX10_hasVariablesOf_109 (tgt := 9) rfl ?_
    exact hR9 _ _ _ _ H locs ls rx2 rx3 r5 hw (lv_sub hl [1, 2, 3, 0] rfl) h
  · refine lv_iconst hx hb dX10_hasVariablesOf_104 (v := jI 0) rfl ?_
    exact hret _ _ _ _ _ _ h.1 h.2 hw dX10_hasVariablesOf_105

def v_10_hasVariablesOf_83 (R9 : Int → Int → Int → iST → Prop) (R42 : Int → Int → Int → Int → Int → iST → Prop) (Q : Int → iST → Prop) (x2 : Int) (x3 : Int) (x4 : Int) (x6 : Int) (y0 : Int) (u : iST) : Prop :=
  v_7_right x6 (fun v8 u => 
  R42 x2 x3 x4 y0 v8 u) u
set_option maxRecDepth 20000 in
set_option maxHeartbeats 4000000 in
theorem f_10_hasVariablesOf_83 (X : yX RX10 p m c cX10_hasVariablesOf 7 s args D ca ad A) (hRf : 2 ≤ R.frames) (hRl : 50 ≤ R.locals) {Q : Int → iST → Prop} (hret : ∀ (v : Int) (u : iST) (H : Heap) (locs : List Loc) (ls : Array Slot) (pc : Nat), bz v → Q v u → yW D ca A ad s H locs u → decode cX10_hasVariablesOf pc = .ok (.ireturn, 1) → W p l e R s m args below meth c H locs 0 0 Qf (F0 m pc ls [.int (jI v)])) {R9 : Int → Int → Int → iST → Prop} (hR9 : ∀ (x2 : Int) (x3 : Int) (x4 : Int) (u : iST) (H : Heap) (locs : List Loc) (ls : Array Slot), inR x2 → inR x3 → inR x4 → yW D ca A ad s H locs u → lv_has ls 7 [(0, .ref (ad 0 8)), (2, .int (jI x2)), (3, .int (jI x3)), (4, .int (jI x4))] → R9 x2 x3 x4 u → W p l e R s m args below meth c H locs 0 0 Qf (F0 m 9 ls [])) {R42 : Int → Int → Int → Int → Int → iST → Prop} (hR42 : ∀ (x2 : Int) (x3 : Int) (x4 : Int) (x5 : Int) (x6 : Int) (u : iST) (H : Heap) (locs : List Loc) (ls : Array Slot), inR x2 → inR x3 → inR x4 → inR x5 → inR x6 → yW D ca A ad s H locs u → lv_has ls 7 [(0, .ref (ad 0 8)), (2, .int (jI x2)), (3, .int (jI x3)), (4, .int (jI x4)), (5, .int (jI x5)), (6, .int (jI x6))] → R42 x2 x3 x4 x5 x6 u → W p l e R s m args below meth c H locs 0 0 Qf (F0 m 42 ls [])) {x2 x3 x4 x6 y0 : Int} (rx2 : inR x2) (rx3 : inR x3) (rx4 : inR x4) (rx6 : inR x6) (ry0 : inR y0) (hw : yW D ca A ad s H locs u) (hl : lv_has ls 7 [(0, .ref (ad 0 8)), (2, .int (jI x2)), (3, .int (jI x3)), (4, .int (jI x4)), (6, .int (jI x6))]) (h : v_10_hasVariablesOf_83 R9 R42 Q x2 x3 x4 x6 y0 u) : W p l e R s m args below meth c H locs 0 0 Qf (F0 m 83 ls [.int (jI y0)]) := by
  have hx := X.1.1
  have hb := X.1.2.1
  unfold v_10_hasVariablesOf_83 at h
  refine lv_istore hx hb dX10_hasVariablesOf_83 hl (by decide) rfl (fun ls hl => ?_)
  have hl : lv_has ls 7 [(5, .int (jI y0)), (0, .ref (ad 0 8)), (2, .int (jI x2)), (3, .int (jI x3)), (4, .int (jI x4)), (6, .int (jI x6))] := hl
  refine lv_aload_n hx hb dX10_hasVariablesOf_85 rfl (lv_at hl 1 rfl) ?_
  refine yg_10_55 X hw dX10_hasVariablesOf_86 ?_
  refine lv_iload hx hb dX10_hasVariablesOf_89 (lv_at hl 5 rfl) ?_
  refine ycI (n := 1) (e_7_right rx6 h) 7 6 (r := (RX7, TX7, 9)) rfl yG_10_77 yD_7_right X hw rfl yGo_7 (Nat.le_trans (Nat.le_of_ble_eq_true rfl) hRf) (Nat.le_trans (Nat.le_of_ble_eq_true rfl) hRl) rfl hl.1 (Nat.le_of_ble_eq_true rfl) rfl dX10_hasVariablesOf_91 (fun v8 u H locs rv8 h hw => ?_)
  refine lv_istore hx hb dX10_hasVariablesOf_94 hl (by decide) rfl (fun ls hl => ?_)
  have hl : lv_has ls 7 [(6, .int (jI v8)), (5, .int (jI y0)), (0, .ref (ad 0 8)), (2, .int (jI x2)), (3, .int (jI x3)), (4, .int (jI x4))] := hl
  refine lv_goto hx hb dX10_hasVariablesOf_96 (tgt := 42) rfl ?_
  exact hR42 _ _ _ _ _ _ H locs ls rx2 rx3 rx4 ry0 rv8 hw (lv_sub hl [2, 3, 4, 5, 1, 0] rfl) h

def v_10_hasVariablesOf_42b (R9 : Int → Int → Int → iST → Prop) (R42 : Int → Int → Int → Int → Int → iST → Prop) (Q : Int → iST → Prop) (x2 : Int) (x3 : Int) (x4 : Int) (x5 : Int) (x6 : Int) (u : iST) : Prop :=
  v_7_isPair x6 (fun v4 u => 
  br (v4 = 0) (
    v_10_hasVariablesOf_99 R9 Q x2 x3 x4 x5 u) (
    br (x5 ≠ 0) (
      v_10_hasVariablesOf_99 R9 Q x2 x3 x4 x5 u) (
      v_7_left x6 (fun v6 u => 
      bd x4 128 (rd (u.2.1 43 x4) (fun v7 => 
      br (v6 ≠ v7) (
        v_10_hasVariablesOf_83 R9 R42 Q x2 x3 x4 x6 0 u) (
        v_10_hasVariablesOf_83 R9 R42 Q x2 x3 x4 x6 1 u)))) u))) u
def v_10_hasVariablesOf_42 (R9 : Int → Int → Int → iST → Prop) (Q : Int → iST → Prop) (x2 : Int) (x3 : Int) (x4 : Int) (x5 : Int) (x6 : Int) (u : iST) : Prop := ∀ R42 : Int → Int → Int → Int → Int → iST → Prop, (∀ (x2 : Int) (x3 : Int) (x4 : Int) (x5 : Int) (x6 : Int) (u : iST), v_10_hasVariablesOf_42b R9 R42 Q x2 x3 x4 x5 x6 u → R42 x2 x3 x4 x5 x6 u) → R42 x2 x3 x4 x5 x6 u
set_option maxRecDepth 20000 in
set_option maxHeartbeats 4000000 in
theorem f_10_hasVariablesOf_42 (X : yX RX10 p m c cX10_hasVariablesOf 7 s args D ca ad A) (hRf : 2 ≤ R.frames) (hRl : 50 ≤ R.locals) {Q : Int → iST → Prop} (hret : ∀ (v : Int) (u : iST) (H : Heap) (locs : List Loc) (ls : Array Slot) (pc : Nat), bz v → Q v u → yW D ca A ad s H locs u → decode cX10_hasVariablesOf pc = .ok (.ireturn, 1) → W p l e R s m args below meth c H locs 0 0 Qf (F0 m pc ls [.int (jI v)])) {R9 : Int → Int → Int → iST → Prop} (hR9 : ∀ (x2 : Int) (x3 : Int) (x4 : Int) (u : iST) (H : Heap) (locs : List Loc) (ls : Array Slot), inR x2 → inR x3 → inR x4 → yW D ca A ad s H locs u → lv_has ls 7 [(0, .ref (ad 0 8)), (2, .int (jI x2)), (3, .int (jI x3)), (4, .int (jI x4))] → R9 x2 x3 x4 u → W p l e R s m args below meth c H locs 0 0 Qf (F0 m 9 ls [])) {x2 x3 x4 x5 x6 : Int} (rx2 : inR x2) (rx3 : inR x3) (rx4 : inR x4) (rx5 : inR x5) (rx6 : inR x6) (hw : yW D ca A ad s H locs u) (hl : lv_has ls 7 [(0, .ref (ad 0 8)), (2, .int (jI x2)), (3, .int (jI x3)), (4, .int (jI x4)), (5, .int (jI x5)), (6, .int (jI x6))]) (h : v_10_hasVariablesOf_42 R9 Q x2 x3 x4 x5 x6 u) : W p l e R s m args below meth c H locs 0 0 Qf (F0 m 42 ls []) := by
  refine h (fun x2 x3 x4 x5 x6 u => ∀ (H : Heap) (locs : List Loc) (ls : Array Slot), inR x2 → inR x3 → inR x4 → inR x5 → inR x6 → yW D ca A ad s H locs u → lv_has ls 7 [(0, .ref (ad 0 8)), (2, .int (jI x2)), (3, .int (jI x3)), (4, .int (jI x4)), (5, .int (jI x5)), (6, .int (jI x6))] → W p l e R s m args below meth c H locs 0 0 Qf (F0 m 42 ls [])) ?_ H locs ls rx2 rx3 rx4 rx5 rx6 hw hl
  clear h hl hw rx2 rx3 rx4 rx5 rx6
  intro x2 x3 x4 x5 x6 u h H locs ls rx2 rx3 rx4 rx5 rx6 hw hl
  have hR42 : ∀ (x2 : Int) (x3 : Int) (x4 : Int) (x5 : Int) (x6 : Int) (u : iST) (H : Heap) (locs : List Loc) (ls : Array Slot), inR x2 → inR x3 → inR x4 → inR x5 → inR x6 → yW D ca A ad s H locs u → lv_has ls 7 [(0, .ref (ad 0 8)), (2, .int (jI x2)), (3, .int (jI x3)), (4, .int (jI x4)), (5, .int (jI x5)), (6, .int (jI x6))] → (fun (x2 : Int) (x3 : Int) (x4 : Int) (x5 : Int) (x6 : Int) u => ∀ (H : Heap) (locs : List Loc) (ls : Array Slot), inR x2 → inR x3 → inR x4 → inR x5 → inR x6 → yW D ca A ad s H locs u → lv_has ls 7 [(0, .ref (ad 0 8)), (2, .int (jI x2)), (3, .int (jI x3)), (4, .int (jI x4)), (5, .int (jI x5)), (6, .int (jI x6))] → W p l e R s m args below meth c H locs 0 0 Qf (F0 m 42 ls [])) x2 x3 x4 x5 x6 u → W p l e R s m args below meth c H locs 0 0 Qf (F0 m 42 ls []) := fun x2 x3 x4 x5 x6 u H locs ls rx2 rx3 rx4 rx5 rx6 hw hl h => h H locs ls rx2 rx3 rx4 rx5 rx6 hw hl
  have hx := X.1.1
  have hb := X.1.2.1
  unfold v_10_hasVariablesOf_42b at h
  refine lv_aload_n hx hb dX10_hasVariablesOf_42 rfl (lv_at hl 0 rfl) ?_
  refine yg_10_55 X hw dX10_hasVariablesOf_43 ?_
  refine lv_iload hx hb dX10_hasVariablesOf_46 (lv_at hl 5 rfl) ?_
  refine ycI (n := 1) (e_7_isPair rx6 h) 7 6 (r := (RX7, TX7, 9)) rfl yG_10_80 yD_7_isPair X hw rfl yGo_7 (Nat.le_trans (Nat.le_of_ble_eq_true rfl) hRf) (Nat.le_trans (Nat.le_of_ble_eq_true rfl) hRl) rfl hl.1 (Nat.le_of_ble_eq_true rfl) rfl dX10_hasVariablesOf_48 (fun v4 u H locs rv4 h hw => ?_)
  refine k_if_eq hx hb rv4 dX10_hasVariablesOf_51 (tgt := 99) rfl h (fun h => ?_) (fun h => ?_)
  · exact f_10_hasVariablesOf_99 X hRf hRl hret hR9 rx2 rx3 rx4 rx5 hw (lv_sub hl [0, 1, 2, 3, 4] rfl) h
  · refine lv_iload hx hb dX10_hasVariablesOf_54 (lv_at hl 4 rfl) ?_
    refine k_if_ne hx hb rx5 dX10_hasVariablesOf_56 (tgt := 99) rfl h (fun h => ?_) (fun h => ?_)
    · exact f_10_hasVariablesOf_99 X hRf hRl hret hR9 rx2 rx3 rx4 rx5 hw (lv_sub hl [0, 1, 2, 3, 4] rfl) h
    · refine lv_aload_n hx hb dX10_hasVariablesOf_59 rfl (lv_at hl 0 rfl) ?_
      refine yg_10_55 X hw dX10_hasVariablesOf_60 ?_
      refine lv_iload hx hb dX10_hasVariablesOf_63 (lv_at hl 5 rfl) ?_
      refine ycI (n := 1) (e_7_left rx6 h) 7 6 (r := (RX7, TX7, 9)) rfl yG_10_72 yD_7_left X hw rfl yGo_7 (Nat.le_trans (Nat.le_of_ble_eq_true rfl) hRf) (Nat.le_trans (Nat.le_of_ble_eq_true rfl) hRl) rfl hl.1 (Nat.le_of_ble_eq_true rfl) rfl dX10_hasVariablesOf_65 (fun v6 u H locs rv6 h hw => ?_)
      refine lv_aload_n hx hb dX10_hasVariablesOf_68 rfl (lv_at hl 0 rfl) ?_
      refine yg_10_52 X hw dX10_hasVariablesOf_69 ?_
      refine lv_iload hx hb dX10_hasVariablesOf_72 (lv_at hl 3 rfl) ?_
      refine yl_43 X hw rx4 dX10_hasVariablesOf_74 h (fun v7 rv7 h => ?_)
      refine k_icmp_ne hx hb rv6 rv7 dX10_hasVariablesOf_75 (tgt := 82) rfl h (fun h => ?_) (fun h => ?_)
      · refine lv_iconst hx hb dX10_hasVariablesOf_82 (v := jI 0) rfl ?_
        exact f_10_hasVariablesOf_83 X hRf hRl hret hR9 hR42 rx2 rx3 rx4 rx6 (by decide) hw (lv_sub hl [0, 1, 2, 3, 5] rfl) h
      · refine lv_iconst hx hb dX10_hasVariablesOf_78 (v := jI 1) rfl ?_
        refine lv_goto hx hb dX10_hasVariablesOf_79 (tgt := 83) rfl ?_
        exact f_10_hasVariablesOf_83 X hRf hRl hret hR9 hR42 rx2 rx3 rx4 rx6 (by decide) hw (lv_sub hl [0, 1, 2, 3, 5] rfl) h

def v_10_hasVariablesOf_37 (R9 : Int → Int → Int → iST → Prop) (Q : Int → iST → Prop) (x2 : Int) (x3 : Int) (x4 : Int) (y0 : Int) (u : iST) : Prop :=
  v_10_hasVariablesOf_42 R9 Q x2 x3 x4 y0 x2 u
set_option maxRecDepth 20000 in
set_option maxHeartbeats 4000000 in
theorem f_10_hasVariablesOf_37 (X : yX RX10 p m c cX10_hasVariablesOf 7 s args D ca ad A) (hRf : 2 ≤ R.frames) (hRl : 50 ≤ R.locals) {Q : Int → iST → Prop} (hret : ∀ (v : Int) (u : iST) (H : Heap) (locs : List Loc) (ls : Array Slot) (pc : Nat), bz v → Q v u → yW D ca A ad s H locs u → decode cX10_hasVariablesOf pc = .ok (.ireturn, 1) → W p l e R s m args below meth c H locs 0 0 Qf (F0 m pc ls [.int (jI v)])) {R9 : Int → Int → Int → iST → Prop} (hR9 : ∀ (x2 : Int) (x3 : Int) (x4 : Int) (u : iST) (H : Heap) (locs : List Loc) (ls : Array Slot), inR x2 → inR x3 → inR x4 → yW D ca A ad s H locs u → lv_has ls 7 [(0, .ref (ad 0 8)), (2, .int (jI x2)), (3, .int (jI x3)), (4, .int (jI x4))] → R9 x2 x3 x4 u → W p l e R s m args below meth c H locs 0 0 Qf (F0 m 9 ls [])) {x2 x3 x4 y0 : Int} (rx2 : inR x2) (rx3 : inR x3) (rx4 : inR x4) (ry0 : inR y0) (hw : yW D ca A ad s H locs u) (hl : lv_has ls 7 [(0, .ref (ad 0 8)), (2, .int (jI x2)), (3, .int (jI x3)), (4, .int (jI x4))]) (h : v_10_hasVariablesOf_37 R9 Q x2 x3 x4 y0 u) : W p l e R s m args below meth c H locs 0 0 Qf (F0 m 37 ls [.int (jI y0)]) := by
  have hx := X.1.1
  have hb := X.1.2.1
  unfold v_10_hasVariablesOf_37 at h
  refine lv_istore hx hb dX10_hasVariablesOf_37 hl (by decide) rfl (fun ls hl => ?_)
  have hl : lv_has ls 7 [(5, .int (jI y0)), (0, .ref (ad 0 8)), (2, .int (jI x2)), (3, .int (jI x3)), (4, .int (jI x4))] := hl
  refine lv_iload_n hx hb dX10_hasVariablesOf_39 rfl (lv_at hl 2 rfl) ?_
  refine lv_istore hx hb dX10_hasVariablesOf_40 hl (by decide) rfl (fun ls hl => ?_)
  have hl : lv_has ls 7 [(6, .int (jI x2)), (5, .int (jI y0)), (0, .ref (ad 0 8)), (2, .int (jI x2)), (3, .int (jI x3)), (4, .int (jI x4))] := hl
  exact f_10_hasVariablesOf_42 X hRf hRl hret hR9 rx2 rx3 rx4 ry0 rx2 hw (lv_sub hl [2, 3, 4, 5, 1, 0] rfl) h

def v_10_hasVariablesOf_9b (R9 : Int → Int → Int → iST → Prop) (Q : Int → iST → Prop) (x2 : Int) (x3 : Int) (x4 : Int) (u : iST) : Prop :=
  br (x3 ≤ x4) (
    zt 1 (Q 1 u)) (
    bd x4 128 (rd (u.2.1 43 x4) (fun v2 => 
    v_7_isVariable v2 (fun v3 u => 
    br (v3 ≠ 0) (
      v_10_hasVariablesOf_37 R9 Q x2 x3 x4 0 u) (
      v_10_hasVariablesOf_37 R9 Q x2 x3 x4 1 u)) u)))
def v_10_hasVariablesOf_9 (Q : Int → iST → Prop) (x2 : Int) (x3 : Int) (x4 : Int) (u : iST) : Prop := ∀ R9 : Int → Int → Int → iST → Prop, (∀ (x2 : Int) (x3 : Int) (x4 : Int) (u : iST), v_10_hasVariablesOf_9b R9 Q x2 x3 x4 u → R9 x2 x3 x4 u) → R9 x2 x3 x4 u
set_option maxRecDepth 20000 in
set_option maxHeartbeats 4000000 in
theorem f_10_hasVariablesOf_9 (X : yX RX10 p m c cX10_hasVariablesOf 7 s args D ca ad A) (hRf : 2 ≤ R.frames) (hRl : 50 ≤ R.locals) {Q : Int → iST → Prop} (hret : ∀ (v : Int) (u : iST) (H : Heap) (locs : List Loc) (ls : Array Slot) (pc : Nat), bz v → Q v u → yW D ca A ad s H locs u → decode cX10_hasVariablesOf pc = .ok (.ireturn, 1) → W p l e R s m args below meth c H locs 0 0 Qf (F0 m pc ls [.int (jI v)])) {x2 x3 x4 : Int} (rx2 : inR x2) (rx3 : inR x3) (rx4 : inR x4) (hw : yW D ca A ad s H locs u) (hl : lv_has ls 7 [(0, .ref (ad 0 8)), (2, .int (jI x2)), (3, .int (jI x3)), (4, .int (jI x4))]) (h : v_10_hasVariablesOf_9 Q x2 x3 x4 u) : W p l e R s m args below meth c H locs 0 0 Qf (F0 m 9 ls []) := by
  refine h (fun x2 x3 x4 u => ∀ (H : Heap) (locs : List Loc) (ls : Array Slot), inR x2 → inR x3 → inR x4 → yW D ca A ad s H locs u → lv_has ls 7 [(0, .ref (ad 0 8)), (2, .int (jI x2)), (3, .int (jI x3)), (4, .int (jI x4))] → W p l e R s m args below meth c H locs 0 0 Qf (F0 m 9 ls [])) ?_ H locs ls rx2 rx3 rx4 hw hl
  clear h hl hw rx2 rx3 rx4
  intro x2 x3 x4 u h H locs ls rx2 rx3 rx4 hw hl
  have hR9 : ∀ (x2 : Int) (x3 : Int) (x4 : Int) (u : iST) (H : Heap) (locs : List Loc) (ls : Array Slot), inR x2 → inR x3 → inR x4 → yW D ca A ad s H locs u → lv_has ls 7 [(0, .ref (ad 0 8)), (2, .int (jI x2)), (3, .int (jI x3)), (4, .int (jI x4))] → (fun (x2 : Int) (x3 : Int) (x4 : Int) u => ∀ (H : Heap) (locs : List Loc) (ls : Array Slot), inR x2 → inR x3 → inR x4 → yW D ca A ad s H locs u → lv_has ls 7 [(0, .ref (ad 0 8)), (2, .int (jI x2)), (3, .int (jI x3)), (4, .int (jI x4))] → W p l e R s m args below meth c H locs 0 0 Qf (F0 m 9 ls [])) x2 x3 x4 u → W p l e R s m args below meth c H locs 0 0 Qf (F0 m 9 ls []) := fun x2 x3 x4 u H locs ls rx2 rx3 rx4 hw hl h => h H locs ls rx2 rx3 rx4 hw hl
  have hx := X.1.1
  have hb := X.1.2.1
  unfold v_10_hasVariablesOf_9b at h
  refine lv_iload hx hb dX10_hasVariablesOf_9 (lv_at hl 3 rfl) ?_
  refine lv_iload_n hx hb dX10_hasVariablesOf_11 rfl (lv_at hl 2 rfl) ?_
  refine k_icmp_ge hx hb rx4 rx3 dX10_hasVariablesOf_12 (tgt := 112) rfl h (fun h => ?_) (fun h => ?_)
  · refine lv_iconst hx hb dX10_hasVariablesOf_112 (v := jI 1) rfl ?_
    exact hret _ _ _ _ _ _ h.1 h.2 hw dX10_hasVariablesOf_113
  · refine lv_aload_n hx hb dX10_hasVariablesOf_15 rfl (lv_at hl 0 rfl) ?_
    refine yg_10_55 X hw dX10_hasVariablesOf_16 ?_
    refine lv_aload_n hx hb dX10_hasVariablesOf_19 rfl (lv_at hl 0 rfl) ?_
    refine yg_10_52 X hw dX10_hasVariablesOf_20 ?_
    refine lv_iload hx hb dX10_hasVariablesOf_23 (lv_at hl 3 rfl) ?_
    refine yl_43 X hw rx4 dX10_hasVariablesOf_25 h (fun v2 rv2 h => ?_)
    refine ycI (n := 1) (e_7_isVariable rv2 h) 7 6 (r := (RX7, TX7, 9)) rfl yG_10_106 yD_7_isVariable X hw rfl yGo_7 (Nat.le_trans (Nat.le_of_ble_eq_true rfl) hRf) (Nat.le_trans (Nat.le_of_ble_eq_true rfl) hRl) rfl hl.1 (Nat.le_of_ble_eq_true rfl) rfl dX10_hasVariablesOf_26 (fun v3 u H locs rv3 h hw => ?_)
    refine k_if_ne hx hb rv3 dX10_hasVariablesOf_29 (tgt := 36) rfl h (fun h => ?_) (fun h => ?_)
    · refine lv_iconst hx hb dX10_hasVariablesOf_36 (v := jI 0) rfl ?_
      exact f_10_hasVariablesOf_37 X hRf hRl hret hR9 rx2 rx3 rx4 (by decide) hw hl h
    · refine lv_iconst hx hb dX10_hasVariablesOf_32 (v := jI 1) rfl ?_
      refine lv_goto hx hb dX10_hasVariablesOf_33 (tgt := 37) rfl ?_
      exact f_10_hasVariablesOf_37 X hRf hRl hret hR9 rx2 rx3 rx4 (by decide) hw hl h

def v_10_hasVariablesOf (a0 : Int) (a1 : Int) (Q : Int → iST → Prop) (u : iST) : Prop :=
  v_10_listParts a0 (fun v1 u => 
  v_10_hasVariablesOf_9 Q a1 v1 0 u) u
set_option maxRecDepth 20000 in
set_option maxHeartbeats 4000000 in
theorem f_10_hasVariablesOf_s (X : yX RX10 p m c cX10_hasVariablesOf 7 s args D ca ad A) (hRf : 2 ≤ R.frames) (hRl : 50 ≤ R.locals) {Q : Int → iST → Prop} (hret : ∀ (v : Int) (u : iST) (H : Heap) (locs : List Loc) (ls : Array Slot) (pc : Nat), bz v → Q v u → yW D ca A ad s H locs u → decode cX10_hasVariablesOf pc = .ok (.ireturn, 1) → W p l e R s m args below meth c H locs 0 0 Qf (F0 m pc ls [.int (jI v)])) {a0 a1 : Int} (ra0 : inR a0) (ra1 : inR a1) (hw : yW D ca A ad s H locs u) (hl : lv_has ls 7 [(0, .ref (ad 0 8)), (1, .int (jI a0)), (2, .int (jI a1))]) (h : v_10_hasVariablesOf a0 a1 Q u) : W p l e R s m args below meth c H locs 0 0 Qf (F0 m 0 ls []) := by
  have hx := X.1.1
  have hb := X.1.2.1
  unfold v_10_hasVariablesOf at h
  refine lv_aload_n hx hb dX10_hasVariablesOf_0 rfl (lv_at hl 0 rfl) ?_
  refine lv_iload_n hx hb dX10_hasVariablesOf_1 rfl (lv_at hl 1 rfl) ?_
  refine ycI (n := 1) (e_10_listParts ra0 h) 10 8 (r := (RX10, TX10, 16)) rfl yG_10_149 yD_10_listParts X hw rfl yGo_10 (Nat.le_trans (Nat.le_of_ble_eq_true rfl) hRf) (Nat.le_trans (Nat.le_of_ble_eq_true rfl) hRl) rfl hl.1 (Nat.le_of_ble_eq_true rfl) rfl dX10_hasVariablesOf_2 (fun v1 u H locs rv1 h hw => ?_)
  refine lv_istore_n hx hb dX10_hasVariablesOf_5 rfl hl (by decide) rfl (fun ls hl => ?_)
  have hl : lv_has ls 7 [(3, .int (jI v1)), (0, .ref (ad 0 8)), (1, .int (jI a0)), (2, .int (jI a1))] := hl
  refine lv_iconst hx hb dX10_hasVariablesOf_6 (v := jI 0) rfl ?_
  refine lv_istore hx hb dX10_hasVariablesOf_7 hl (by decide) rfl (fun ls hl => ?_)
  have hl : lv_has ls 7 [(4, .int (jI 0)), (3, .int (jI v1)), (0, .ref (ad 0 8)), (1, .int (jI a0)), (2, .int (jI a1))] := hl
  exact f_10_hasVariablesOf_9 X hRf hRl hret ra1 rv1 (by decide) hw (lv_sub hl [2, 4, 1, 0] rfl) h

end
theorem e_10_hasVariablesOf {l : Launch} {a0 : Int} {a1 : Int} (ra0 : inR a0) (ra1 : inR a1) {Q : Int → iST → Prop} {u : iST} (h : v_10_hasVariablesOf a0 a1 Q u) : yMI l yX10_hasVariablesOf (.code yX10_hasVariablesOf cX10_hasVariablesOf 7 (some .boolean) :: wsN) { frames := 2, cells := 0, slots := 0, locals := 50 } (fun ad => [.ref (ad 0 8), .int (jI a0), .int (jI a1)]) Q u := yMZ_of (own := RX10) rfl (by decide +kernel) (fun _ => Nat.le_of_ble_eq_true rfl) (fun X hRf hRl hret hw hl => f_10_hasVariablesOf_s X hRf hRl hret ra0 ra1 hw hl h)

/-! ProofHouse.feed -/
theorem dX11_feed_0 : decode cX11_feed 0 = .ok (.aload_n 0, 1) := by decide +kernel
theorem dX11_feed_1 : decode cX11_feed 1 = .ok (.getfield 108, 3) := by decide +kernel
theorem dX11_feed_4 : decode cX11_feed 4 = .ok (.iconst 0, 1) := by decide +kernel
theorem dX11_feed_5 : decode cX11_feed 5 = .ok (.iload_n 1, 1) := by decide +kernel
theorem dX11_feed_6 : decode cX11_feed 6 = .ok (.iastore, 1) := by decide +kernel
theorem dX11_feed_7 : decode cX11_feed 7 = .ok (.aload_n 0, 1) := by decide +kernel
theorem dX11_feed_8 : decode cX11_feed 8 = .ok (.getfield 108, 3) := by decide +kernel
theorem dX11_feed_11 : decode cX11_feed 11 = .ok (.iconst 1, 1) := by decide +kernel
theorem dX11_feed_12 : decode cX11_feed 12 = .ok (.iload_n 2, 1) := by decide +kernel
theorem dX11_feed_13 : decode cX11_feed 13 = .ok (.iastore, 1) := by decide +kernel
theorem dX11_feed_14 : decode cX11_feed 14 = .ok (.aload_n 0, 1) := by decide +kernel
theorem dX11_feed_15 : decode cX11_feed 15 = .ok (.getfield 108, 3) := by decide +kernel
theorem dX11_feed_18 : decode cX11_feed 18 = .ok (.iconst 2, 1) := by decide +kernel
theorem dX11_feed_19 : decode cX11_feed 19 = .ok (.iload_n 3, 1) := by decide +kernel
theorem dX11_feed_20 : decode cX11_feed 20 = .ok (.iastore, 1) := by decide +kernel
theorem dX11_feed_21 : decode cX11_feed 21 = .ok (.aload_n 0, 1) := by decide +kernel
theorem dX11_feed_22 : decode cX11_feed 22 = .ok (.getfield 108, 3) := by decide +kernel
theorem dX11_feed_25 : decode cX11_feed 25 = .ok (.iconst 3, 1) := by decide +kernel
theorem dX11_feed_26 : decode cX11_feed 26 = .ok (.iload 4, 2) := by decide +kernel
theorem dX11_feed_28 : decode cX11_feed 28 = .ok (.iastore, 1) := by decide +kernel
theorem dX11_feed_29 : decode cX11_feed 29 = .ok (.aload_n 0, 1) := by decide +kernel
theorem dX11_feed_30 : decode cX11_feed 30 = .ok (.getfield 108, 3) := by decide +kernel
theorem dX11_feed_33 : decode cX11_feed 33 = .ok (.iconst 4, 1) := by decide +kernel
theorem dX11_feed_34 : decode cX11_feed 34 = .ok (.iload 5, 2) := by decide +kernel
theorem dX11_feed_36 : decode cX11_feed 36 = .ok (.iastore, 1) := by decide +kernel
theorem dX11_feed_37 : decode cX11_feed 37 = .ok (.return_, 1) := by decide +kernel

section
variable {p : Program} {l : Launch} {e : Env} {R : Room} {s : State} {m : MethodId} {args : Array Value} {below : List Frame} {meth : Method} {c : Code} {H : Heap} {locs : List Loc} {Qf : State → Prop}
variable {ls : Array Slot} {D : va_G} {ca : Nat → ClassId} {A : Nat → Prop} {ad : Nat → Nat → Nat} {u : iST}
def v_11_feed (a0 : Int) (a1 : Int) (a2 : Int) (a3 : Int) (a4 : Int) (Q : iST → Prop) (u : iST) : Prop :=
  bd 0 5 (sw (iA u 45 0 a0) (fun u => 
  bd 1 5 (sw (iA u 45 1 a1) (fun u => 
  bd 2 5 (sw (iA u 45 2 a2) (fun u => 
  bd 3 5 (sw (iA u 45 3 a3) (fun u => 
  bd 4 5 (sw (iA u 45 4 a4) (fun u => 
  Q u))))))))))
set_option maxRecDepth 20000 in
set_option maxHeartbeats 4000000 in
theorem f_11_feed_s (X : yX RX11 p m c cX11_feed 6 s args D ca ad A) (hRf : 0 ≤ R.frames) (hRl : 0 ≤ R.locals) {Q : iST → Prop} (hret : ∀ (u : iST) (H : Heap) (locs : List Loc) (ls : Array Slot) (pc : Nat), Q u → yW D ca A ad s H locs u → decode cX11_feed pc = .ok (.return_, 1) → W p l e R s m args below meth c H locs 0 0 Qf (F0 m pc ls [])) {a0 a1 a2 a3 a4 : Int} (ra0 : inR a0) (ra1 : inR a1) (ra2 : inR a2) (ra3 : inR a3) (ra4 : inR a4) (hw : yW D ca A ad s H locs u) (hl : lv_has ls 6 [(0, .ref (ad 0 9)), (1, .int (jI a0)), (2, .int (jI a1)), (3, .int (jI a2)), (4, .int (jI a3)), (5, .int (jI a4))]) (h : v_11_feed a0 a1 a2 a3 a4 Q u) : W p l e R s m args below meth c H locs 0 0 Qf (F0 m 0 ls []) := by
  have hx := X.1.1
  have hb := X.1.2.1
  unfold v_11_feed at h
  refine lv_aload_n hx hb dX11_feed_0 rfl (lv_at hl 0 rfl) ?_
  refine yg_11_108 X hw dX11_feed_1 ?_
  refine lv_iconst hx hb dX11_feed_4 (v := jI 0) rfl ?_
  refine lv_iload_n hx hb dX11_feed_5 rfl (lv_at hl 1 rfl) ?_
  refine yt_45 X hw (by decide) ra0 dX11_feed_6 h (fun H locs u hw h => ?_)
  refine lv_aload_n hx hb dX11_feed_7 rfl (lv_at hl 0 rfl) ?_
  refine yg_11_108 X hw dX11_feed_8 ?_
  refine lv_iconst hx hb dX11_feed_11 (v := jI 1) rfl ?_
  refine lv_iload_n hx hb dX11_feed_12 rfl (lv_at hl 2 rfl) ?_
  refine yt_45 X hw (by decide) ra1 dX11_feed_13 h (fun H locs u hw h => ?_)
  refine lv_aload_n hx hb dX11_feed_14 rfl (lv_at hl 0 rfl) ?_
  refine yg_11_108 X hw dX11_feed_15 ?_
  refine lv_iconst hx hb dX11_feed_18 (v := jI 2) rfl ?_
  refine lv_iload_n hx hb dX11_feed_19 rfl (lv_at hl 3 rfl) ?_
  refine yt_45 X hw (by decide) ra2 dX11_feed_20 h (fun H locs u hw h => ?_)
  refine lv_aload_n hx hb dX11_feed_21 rfl (lv_at hl 0 rfl) ?_
  refine yg_11_108 X hw dX11_feed_22 ?_
  refine lv_iconst hx hb dX11_feed_25 (v := jI 3) rfl ?_
  refine lv_iload hx hb dX11_feed_26 (lv_at hl 4 rfl) ?_
  refine yt_45 X hw (by decide) ra3 dX11_feed_28 h (fun H locs u hw h => ?_)
  refine lv_aload_n hx hb dX11_feed_29 rfl (lv_at hl 0 rfl) ?_
  refine yg_11_108 X hw dX11_feed_30 ?_
  refine lv_iconst hx hb dX11_feed_33 (v := jI 4) rfl ?_
  refine lv_iload hx hb dX11_feed_34 (lv_at hl 5 rfl) ?_
  refine yt_45 X hw (by decide) ra4 dX11_feed_36 h (fun H locs u hw h => ?_)
  exact hret _ _ _ _ _ h hw dX11_feed_37

end
theorem e_11_feed {l : Launch} {a0 : Int} {a1 : Int} {a2 : Int} {a3 : Int} {a4 : Int} (ra0 : inR a0) (ra1 : inR a1) (ra2 : inR a2) (ra3 : inR a3) (ra4 : inR a4) {Q : iST → Prop} {u : iST} (h : v_11_feed a0 a1 a2 a3 a4 Q u) : yMV l yX11_feed (.code yX11_feed cX11_feed 6 none :: wsN) { frames := 0, cells := 0, slots := 0, locals := 0 } (fun ad => [.ref (ad 0 9), .int (jI a0), .int (jI a1), .int (jI a2), .int (jI a3), .int (jI a4)]) Q u := yMV_of (own := RX11) rfl (by decide +kernel) (fun _ => Nat.le_of_ble_eq_true rfl) (fun X hRf hRl hret hw hl => f_11_feed_s X hRf hRl hret ra0 ra1 ra2 ra3 ra4 hw hl h)

/-! ProofHouse.end -/
theorem dX11_end_0 : decode cX11_end 0 = .ok (.iload_n 1, 1) := by decide +kernel
theorem dX11_end_1 : decode cX11_end 1 = .ok (.ifCond .lt 21, 3) := by decide +kernel
theorem dX11_end_4 : decode cX11_end 4 = .ok (.iload_n 1, 1) := by decide +kernel
theorem dX11_end_5 : decode cX11_end 5 = .ok (.bipush 20, 2) := by decide +kernel
theorem dX11_end_7 : decode cX11_end 7 = .ok (.if_icmp .gt 15, 3) := by decide +kernel
theorem dX11_end_10 : decode cX11_end 10 = .ok (.aload_n 0, 1) := by decide +kernel
theorem dX11_end_11 : decode cX11_end 11 = .ok (.getfield 105, 3) := by decide +kernel
theorem dX11_end_14 : decode cX11_end 14 = .ok (.iload_n 1, 1) := by decide +kernel
theorem dX11_end_15 : decode cX11_end 15 = .ok (.iadd, 1) := by decide +kernel
theorem dX11_end_16 : decode cX11_end 16 = .ok (.sipush 3000, 3) := by decide +kernel
theorem dX11_end_19 : decode cX11_end 19 = .ok (.if_icmp .le 5, 3) := by decide +kernel
theorem dX11_end_22 : decode cX11_end 22 = .ok (.iconst (-1), 1) := by decide +kernel
theorem dX11_end_23 : decode cX11_end 23 = .ok (.ireturn, 1) := by decide +kernel
theorem dX11_end_24 : decode cX11_end 24 = .ok (.iconst 0, 1) := by decide +kernel
theorem dX11_end_25 : decode cX11_end 25 = .ok (.istore_n 2, 1) := by decide +kernel
theorem dX11_end_26 : decode cX11_end 26 = .ok (.iload_n 2, 1) := by decide +kernel
theorem dX11_end_27 : decode cX11_end 27 = .ok (.iload_n 1, 1) := by decide +kernel
theorem dX11_end_28 : decode cX11_end 28 = .ok (.if_icmp .ge 43, 3) := by decide +kernel
theorem dX11_end_31 : decode cX11_end 31 = .ok (.aload_n 0, 1) := by decide +kernel
theorem dX11_end_32 : decode cX11_end 32 = .ok (.getfield 101, 3) := by decide +kernel
theorem dX11_end_35 : decode cX11_end 35 = .ok (.aload_n 0, 1) := by decide +kernel
theorem dX11_end_36 : decode cX11_end 36 = .ok (.getfield 105, 3) := by decide +kernel
theorem dX11_end_39 : decode cX11_end 39 = .ok (.iload_n 2, 1) := by decide +kernel
theorem dX11_end_40 : decode cX11_end 40 = .ok (.iadd, 1) := by decide +kernel
theorem dX11_end_41 : decode cX11_end 41 = .ok (.aload_n 0, 1) := by decide +kernel
theorem dX11_end_42 : decode cX11_end 42 = .ok (.getfield 108, 3) := by decide +kernel
theorem dX11_end_45 : decode cX11_end 45 = .ok (.iload_n 2, 1) := by decide +kernel
theorem dX11_end_46 : decode cX11_end 46 = .ok (.iconst 4, 1) := by decide +kernel
theorem dX11_end_47 : decode cX11_end 47 = .ok (.idiv, 1) := by decide +kernel
theorem dX11_end_48 : decode cX11_end 48 = .ok (.iaload, 1) := by decide +kernel
theorem dX11_end_49 : decode cX11_end 49 = .ok (.bipush 24, 2) := by decide +kernel
theorem dX11_end_51 : decode cX11_end 51 = .ok (.iload_n 2, 1) := by decide +kernel
theorem dX11_end_52 : decode cX11_end 52 = .ok (.iconst 4, 1) := by decide +kernel
theorem dX11_end_53 : decode cX11_end 53 = .ok (.irem, 1) := by decide +kernel
theorem dX11_end_54 : decode cX11_end 54 = .ok (.bipush 8, 2) := by decide +kernel
theorem dX11_end_56 : decode cX11_end 56 = .ok (.imul, 1) := by decide +kernel
theorem dX11_end_57 : decode cX11_end 57 = .ok (.isub, 1) := by decide +kernel
theorem dX11_end_58 : decode cX11_end 58 = .ok (.iushr, 1) := by decide +kernel
theorem dX11_end_59 : decode cX11_end 59 = .ok (.sipush 255, 3) := by decide +kernel
theorem dX11_end_62 : decode cX11_end 62 = .ok (.iand, 1) := by decide +kernel
theorem dX11_end_63 : decode cX11_end 63 = .ok (.i2c, 1) := by decide +kernel
theorem dX11_end_64 : decode cX11_end 64 = .ok (.castore, 1) := by decide +kernel
theorem dX11_end_65 : decode cX11_end 65 = .ok (.iinc 2 1, 3) := by decide +kernel
theorem dX11_end_68 : decode cX11_end 68 = .ok (.goto (-42), 3) := by decide +kernel
theorem dX11_end_71 : decode cX11_end 71 = .ok (.aload_n 0, 1) := by decide +kernel
theorem dX11_end_72 : decode cX11_end 72 = .ok (.dup, 1) := by decide +kernel
theorem dX11_end_73 : decode cX11_end 73 = .ok (.getfield 105, 3) := by decide +kernel
theorem dX11_end_76 : decode cX11_end 76 = .ok (.iload_n 1, 1) := by decide +kernel
theorem dX11_end_77 : decode cX11_end 77 = .ok (.iadd, 1) := by decide +kernel
theorem dX11_end_78 : decode cX11_end 78 = .ok (.putfield 105, 3) := by decide +kernel
theorem dX11_end_81 : decode cX11_end 81 = .ok (.aload_n 0, 1) := by decide +kernel
theorem dX11_end_82 : decode cX11_end 82 = .ok (.getfield 108, 3) := by decide +kernel
theorem dX11_end_85 : decode cX11_end 85 = .ok (.iconst 0, 1) := by decide +kernel
theorem dX11_end_86 : decode cX11_end 86 = .ok (.invokestatic 137, 3) := by decide +kernel
theorem dX11_end_89 : decode cX11_end 89 = .ok (.aload_n 0, 1) := by decide +kernel
theorem dX11_end_90 : decode cX11_end 90 = .ok (.getfield 105, 3) := by decide +kernel
theorem dX11_end_93 : decode cX11_end 93 = .ok (.ireturn, 1) := by decide +kernel

section
variable {p : Program} {l : Launch} {e : Env} {R : Room} {s : State} {m : MethodId} {args : Array Value} {below : List Frame} {meth : Method} {c : Code} {H : Heap} {locs : List Loc} {Qf : State → Prop}
variable {ls : Array Slot} {D : va_G} {ca : Nat → ClassId} {A : Nat → Prop} {ad : Nat → Nat → Nat} {u : iST}
def v_11_end_26b (R26 : Int → Int → iST → Prop) (Q : Int → iST → Prop) (x1 : Int) (x2 : Int) (u : iST) : Prop :=
  br (x1 ≤ x2) (
    rd (u.1 42) (fun v3 => 
    ov (v3 + x1) (
    sw (iI u 42 (v3 + x1)) (fun u => 
    rw5 u 45 5 0 (fun u => 
    rd (u.1 42) (fun v5 => 
    Q v5 u)))))) (
    rd (u.1 42) (fun v6 => 
    ov (v6 + x2) (
    (0 : Int) < 4 ∧ (
    bd (Int.tdiv x2 4) 5 (rd (u.2.1 45 (Int.tdiv x2 4)) (fun v9 => 
    (0 : Int) < 4 ∧ (
    ov ((Int.tmod x2 4) * 8) (
    ov (24 - ((Int.tmod x2 4) * 8)) (
    rd (wushr v9 (24 - ((Int.tmod x2 4) * 8))) (fun v13 => 
    rd (wand v13 255) (fun v14 => 
    rd (wi2c v14) (fun v15 => 
    hc v15 (bd (v6 + x2) 3000 (sw (iA u 44 (v6 + x2) v15) (fun u => 
    ov (x2 + 1) (
    R26 x1 (x2 + 1) u))))))))))))))))
def v_11_end_26 (Q : Int → iST → Prop) (x1 : Int) (x2 : Int) (u : iST) : Prop := ∀ R26 : Int → Int → iST → Prop, (∀ (x1 : Int) (x2 : Int) (u : iST), v_11_end_26b R26 Q x1 x2 u → R26 x1 x2 u) → R26 x1 x2 u
set_option maxRecDepth 20000 in
set_option maxHeartbeats 4000000 in
theorem f_11_end_26 (X : yX RX11 p m c cX11_end 3 s args D ca ad A) (hRf : 6 ≤ R.frames) (hRl : 200 ≤ R.locals) {Q : Int → iST → Prop} (hret : ∀ (v : Int) (u : iST) (H : Heap) (locs : List Loc) (ls : Array Slot) (pc : Nat), inR v → Q v u → yW D ca A ad s H locs u → decode cX11_end pc = .ok (.ireturn, 1) → W p l e R s m args below meth c H locs 0 0 Qf (F0 m pc ls [.int (jI v)])) {x1 x2 : Int} (rx1 : inR x1) (rx2 : inR x2) (hw : yW D ca A ad s H locs u) (hl : lv_has ls 3 [(0, .ref (ad 0 9)), (1, .int (jI x1)), (2, .int (jI x2))]) (h : v_11_end_26 Q x1 x2 u) : W p l e R s m args below meth c H locs 0 0 Qf (F0 m 26 ls []) := by
  refine h (fun x1 x2 u => ∀ (H : Heap) (locs : List Loc) (ls : Array Slot), inR x1 → inR x2 → yW D ca A ad s H locs u → lv_has ls 3 [(0, .ref (ad 0 9)), (1, .int (jI x1)), (2, .int (jI x2))] → W p l e R s m args below meth c H locs 0 0 Qf (F0 m 26 ls [])) ?_ H locs ls rx1 rx2 hw hl
  clear h hl hw rx1 rx2
  intro x1 x2 u h H locs ls rx1 rx2 hw hl
  have hR26 : ∀ (x1 : Int) (x2 : Int) (u : iST) (H : Heap) (locs : List Loc) (ls : Array Slot), inR x1 → inR x2 → yW D ca A ad s H locs u → lv_has ls 3 [(0, .ref (ad 0 9)), (1, .int (jI x1)), (2, .int (jI x2))] → (fun (x1 : Int) (x2 : Int) u => ∀ (H : Heap) (locs : List Loc) (ls : Array Slot), inR x1 → inR x2 → yW D ca A ad s H locs u → lv_has ls 3 [(0, .ref (ad 0 9)), (1, .int (jI x1)), (2, .int (jI x2))] → W p l e R s m args below meth c H locs 0 0 Qf (F0 m 26 ls [])) x1 x2 u → W p l e R s m args below meth c H locs 0 0 Qf (F0 m 26 ls []) := fun x1 x2 u H locs ls rx1 rx2 hw hl h => h H locs ls rx1 rx2 hw hl
  have hx := X.1.1
  have hb := X.1.2.1
  unfold v_11_end_26b at h
  refine lv_iload_n hx hb dX11_end_26 rfl (lv_at hl 2 rfl) ?_
  refine lv_iload_n hx hb dX11_end_27 rfl (lv_at hl 1 rfl) ?_
  refine k_icmp_ge hx hb rx2 rx1 dX11_end_28 (tgt := 71) rfl h (fun h => ?_) (fun h => ?_)
  · refine lv_aload_n hx hb dX11_end_71 rfl (lv_at hl 0 rfl) ?_
    refine lv_dup hx hb dX11_end_72 rfl ?_
    refine yg_11_105 X hw dX11_end_73 h (fun v3 rv3 h => ?_)
    refine lv_iload_n hx hb dX11_end_76 rfl (lv_at hl 1 rfl) ?_
    refine k_iadd hx hb dX11_end_77 h (fun r4 h => ?_)
    refine yp_11_105 X hw r4 dX11_end_78 h (fun H locs u hw h => ?_)
    refine lv_aload_n hx hb dX11_end_81 rfl (lv_at hl 0 rfl) ?_
    refine yg_11_108 X hw dX11_end_82 ?_
    refine lv_iconst hx hb dX11_end_85 (v := jI 0) rfl ?_
    refine yFill_11_137 X hw (by decide) hl.1 (Nat.le_of_ble_eq_true rfl) (Nat.le_trans (Nat.le_of_ble_eq_true rfl) hRf) (Nat.le_trans (Nat.le_of_ble_eq_true rfl) hRl) dX11_end_86 h (fun H locs u hw h => ?_)
    refine lv_aload_n hx hb dX11_end_89 rfl (lv_at hl 0 rfl) ?_
    refine yg_11_105 X hw dX11_end_90 h (fun v5 rv5 h => ?_)
    exact hret _ _ _ _ _ _ rv5 h hw dX11_end_93
  · refine lv_aload_n hx hb dX11_end_31 rfl (lv_at hl 0 rfl) ?_
    refine yg_11_101 X hw dX11_end_32 ?_
    refine lv_aload_n hx hb dX11_end_35 rfl (lv_at hl 0 rfl) ?_
    refine yg_11_105 X hw dX11_end_36 h (fun v6 rv6 h => ?_)
    refine lv_iload_n hx hb dX11_end_39 rfl (lv_at hl 2 rfl) ?_
    refine k_iadd hx hb dX11_end_40 h (fun r7 h => ?_)
    refine lv_aload_n hx hb dX11_end_41 rfl (lv_at hl 0 rfl) ?_
    refine yg_11_108 X hw dX11_end_42 ?_
    refine lv_iload_n hx hb dX11_end_45 rfl (lv_at hl 2 rfl) ?_
    refine lv_iconst hx hb dX11_end_46 (v := jI 4) rfl ?_
    refine k_idiv hx hb rx2 (by decide) dX11_end_47 h (fun r8 h => ?_)
    refine yl_45 X hw r8 dX11_end_48 h (fun v9 rv9 h => ?_)
    refine lv_bipush hx hb dX11_end_49 (v := jI 24) rfl ?_
    refine lv_iload_n hx hb dX11_end_51 rfl (lv_at hl 2 rfl) ?_
    refine lv_iconst hx hb dX11_end_52 (v := jI 4) rfl ?_
    refine k_irem hx hb rx2 (by decide) dX11_end_53 h (fun r10 h => ?_)
    refine lv_bipush hx hb dX11_end_54 (v := jI 8) rfl ?_
    refine k_imul hx hb dX11_end_56 h (fun r11 h => ?_)
    refine k_isub hx hb dX11_end_57 h (fun r12 h => ?_)
    refine k_iushr hx hb dX11_end_58 h (fun v13 rv13 h => ?_)
    refine lv_sipush hx hb dX11_end_59 (v := jI 255) rfl ?_
    refine k_iand hx hb dX11_end_62 h (fun v14 rv14 h => ?_)
    refine k_wi2c hx hb dX11_end_63 h (fun v15 rv15 h => ?_)
    refine yt_44 X hw r7 dX11_end_64 h (fun H locs u hw h => ?_)
    refine k_iinc (k := 2) hx hb dX11_end_65 hl rfl (by decide) rfl h (fun ls r16 h hl => ?_)
    have hl : lv_has ls 3 [(2, .int (jI (x2 + 1))), (0, .ref (ad 0 9)), (1, .int (jI x1))] := hl
    refine lv_goto hx hb dX11_end_68 (tgt := 26) rfl ?_
    exact hR26 _ _ _ H locs ls rx1 r16 hw (lv_sub hl [1, 2, 0] rfl) h

def v_11_end (a0 : Int) (Q : Int → iST → Prop) (u : iST) : Prop :=
  br (a0 < 0) (
    Q (-1) u) (
    br (20 < a0) (
      Q (-1) u) (
      rd (u.1 42) (fun v1 => 
      ov (v1 + a0) (
      br ((v1 + a0) ≤ 3000) (
        v_11_end_26 Q a0 0 u) (
        Q (-1) u)))))
set_option maxRecDepth 20000 in
set_option maxHeartbeats 4000000 in
theorem f_11_end_s (X : yX RX11 p m c cX11_end 3 s args D ca ad A) (hRf : 6 ≤ R.frames) (hRl : 200 ≤ R.locals) {Q : Int → iST → Prop} (hret : ∀ (v : Int) (u : iST) (H : Heap) (locs : List Loc) (ls : Array Slot) (pc : Nat), inR v → Q v u → yW D ca A ad s H locs u → decode cX11_end pc = .ok (.ireturn, 1) → W p l e R s m args below meth c H locs 0 0 Qf (F0 m pc ls [.int (jI v)])) {a0 : Int} (ra0 : inR a0) (hw : yW D ca A ad s H locs u) (hl : lv_has ls 3 [(0, .ref (ad 0 9)), (1, .int (jI a0))]) (h : v_11_end a0 Q u) : W p l e R s m args below meth c H locs 0 0 Qf (F0 m 0 ls []) := by
  have hx := X.1.1
  have hb := X.1.2.1
  unfold v_11_end at h
  refine lv_iload_n hx hb dX11_end_0 rfl (lv_at hl 1 rfl) ?_
  refine k_if_lt hx hb ra0 dX11_end_1 (tgt := 22) rfl h (fun h => ?_) (fun h => ?_)
  · refine lv_iconst hx hb dX11_end_22 (v := jI (-1)) rfl ?_
    exact hret _ _ _ _ _ _ (by decide) h hw dX11_end_23
  · refine lv_iload_n hx hb dX11_end_4 rfl (lv_at hl 1 rfl) ?_
    refine lv_bipush hx hb dX11_end_5 (v := jI 20) rfl ?_
    refine k_icmp_gt hx hb ra0 (by decide) dX11_end_7 (tgt := 22) rfl h (fun h => ?_) (fun h => ?_)
    · refine lv_iconst hx hb dX11_end_22 (v := jI (-1)) rfl ?_
      exact hret _ _ _ _ _ _ (by decide) h hw dX11_end_23
    · refine lv_aload_n hx hb dX11_end_10 rfl (lv_at hl 0 rfl) ?_
      refine yg_11_105 X hw dX11_end_11 h (fun v1 rv1 h => ?_)
      refine lv_iload_n hx hb dX11_end_14 rfl (lv_at hl 1 rfl) ?_
      refine k_iadd hx hb dX11_end_15 h (fun r2 h => ?_)
      refine lv_sipush hx hb dX11_end_16 (v := jI 3000) rfl ?_
      refine k_icmp_le hx hb r2 (by decide) dX11_end_19 (tgt := 24) rfl h (fun h => ?_) (fun h => ?_)
      · refine lv_iconst hx hb dX11_end_24 (v := jI 0) rfl ?_
        refine lv_istore_n hx hb dX11_end_25 rfl hl (by decide) rfl (fun ls hl => ?_)
        have hl : lv_has ls 3 [(2, .int (jI 0)), (0, .ref (ad 0 9)), (1, .int (jI a0))] := hl
        exact f_11_end_26 X hRf hRl hret ra0 (by decide) hw (lv_sub hl [1, 2, 0] rfl) h
      · refine lv_iconst hx hb dX11_end_22 (v := jI (-1)) rfl ?_
        exact hret _ _ _ _ _ _ (by decide) h hw dX11_end_23

end
theorem e_11_end {l : Launch} {a0 : Int} (ra0 : inR a0) {Q : Int → iST → Prop} {u : iST} (h : v_11_end a0 Q u) : yMI l yX11_end (.code yX11_end cX11_end 3 (some .int) :: wsN) { frames := 6, cells := 0, slots := 0, locals := 200 } (fun ad => [.ref (ad 0 9), .int (jI a0)]) Q u := yMI_of (own := RX11) rfl (by decide +kernel) (fun _ => Nat.le_of_ble_eq_true rfl) (fun X hRf hRl hret hw hl => f_11_end_s X hRf hRl hret ra0 hw hl h)

/-! ProofHouse.fuel -/
theorem dX11_fuel_0 : decode cX11_fuel 0 = .ok (.iload_n 1, 1) := by decide +kernel
theorem dX11_fuel_1 : decode cX11_fuel 1 = .ok (.iconst 1, 1) := by decide +kernel
theorem dX11_fuel_2 : decode cX11_fuel 2 = .ok (.if_icmp .lt 10, 3) := by decide +kernel
theorem dX11_fuel_5 : decode cX11_fuel 5 = .ok (.iload_n 1, 1) := by decide +kernel
theorem dX11_fuel_6 : decode cX11_fuel 6 = .ok (.sipush 1000, 3) := by decide +kernel
theorem dX11_fuel_9 : decode cX11_fuel 9 = .ok (.if_icmp .le 5, 3) := by decide +kernel
theorem dX11_fuel_12 : decode cX11_fuel 12 = .ok (.iconst (-1), 1) := by decide +kernel
theorem dX11_fuel_13 : decode cX11_fuel 13 = .ok (.ireturn, 1) := by decide +kernel
theorem dX11_fuel_14 : decode cX11_fuel 14 = .ok (.aload_n 0, 1) := by decide +kernel
theorem dX11_fuel_15 : decode cX11_fuel 15 = .ok (.getfield 112, 3) := by decide +kernel
theorem dX11_fuel_18 : decode cX11_fuel 18 = .ok (.istore_n 2, 1) := by decide +kernel
theorem dX11_fuel_19 : decode cX11_fuel 19 = .ok (.aload_n 0, 1) := by decide +kernel
theorem dX11_fuel_20 : decode cX11_fuel 20 = .ok (.iload_n 1, 1) := by decide +kernel
theorem dX11_fuel_21 : decode cX11_fuel 21 = .ok (.putfield 112, 3) := by decide +kernel
theorem dX11_fuel_24 : decode cX11_fuel 24 = .ok (.iload_n 2, 1) := by decide +kernel
theorem dX11_fuel_25 : decode cX11_fuel 25 = .ok (.ireturn, 1) := by decide +kernel

section
variable {p : Program} {l : Launch} {e : Env} {R : Room} {s : State} {m : MethodId} {args : Array Value} {below : List Frame} {meth : Method} {c : Code} {H : Heap} {locs : List Loc} {Qf : State → Prop}
variable {ls : Array Slot} {D : va_G} {ca : Nat → ClassId} {A : Nat → Prop} {ad : Nat → Nat → Nat} {u : iST}
def v_11_fuel (a0 : Int) (Q : Int → iST → Prop) (u : iST) : Prop :=
  br (a0 < 1) (
    Q (-1) u) (
    br (a0 ≤ 1000) (
      rd (u.1 43) (fun v1 => 
      sw (iI u 43 a0) (fun u => 
      Q v1 u))) (
      Q (-1) u))
set_option maxRecDepth 20000 in
set_option maxHeartbeats 4000000 in
theorem f_11_fuel_s (X : yX RX11 p m c cX11_fuel 3 s args D ca ad A) (hRf : 0 ≤ R.frames) (hRl : 0 ≤ R.locals) {Q : Int → iST → Prop} (hret : ∀ (v : Int) (u : iST) (H : Heap) (locs : List Loc) (ls : Array Slot) (pc : Nat), inR v → Q v u → yW D ca A ad s H locs u → decode cX11_fuel pc = .ok (.ireturn, 1) → W p l e R s m args below meth c H locs 0 0 Qf (F0 m pc ls [.int (jI v)])) {a0 : Int} (ra0 : inR a0) (hw : yW D ca A ad s H locs u) (hl : lv_has ls 3 [(0, .ref (ad 0 9)), (1, .int (jI a0))]) (h : v_11_fuel a0 Q u) : W p l e R s m args below meth c H locs 0 0 Qf (F0 m 0 ls []) := by
  have hx := X.1.1
  have hb := X.1.2.1
  unfold v_11_fuel at h
  refine lv_iload_n hx hb dX11_fuel_0 rfl (lv_at hl 1 rfl) ?_
  refine lv_iconst hx hb dX11_fuel_1 (v := jI 1) rfl ?_
  refine k_icmp_lt hx hb ra0 (by decide) dX11_fuel_2 (tgt := 12) rfl h (fun h => ?_) (fun h => ?_)
  · refine lv_iconst hx hb dX11_fuel_12 (v := jI (-1)) rfl ?_
    exact hret _ _ _ _ _ _ (by decide) h hw dX11_fuel_13
  · refine lv_iload_n hx hb dX11_fuel_5 rfl (lv_at hl 1 rfl) ?_
    refine lv_sipush hx hb dX11_fuel_6 (v := jI 1000) rfl ?_
    refine k_icmp_le hx hb ra0 (by decide) dX11_fuel_9 (tgt := 14) rfl h (fun h => ?_) (fun h => ?_)
    · refine lv_aload_n hx hb dX11_fuel_14 rfl (lv_at hl 0 rfl) ?_
      refine yg_11_112 X hw dX11_fuel_15 h (fun v1 rv1 h => ?_)
      refine lv_istore_n hx hb dX11_fuel_18 rfl hl (by decide) rfl (fun ls hl => ?_)
      have hl : lv_has ls 3 [(2, .int (jI v1)), (0, .ref (ad 0 9)), (1, .int (jI a0))] := hl
      refine lv_aload_n hx hb dX11_fuel_19 rfl (lv_at hl 1 rfl) ?_
      refine lv_iload_n hx hb dX11_fuel_20 rfl (lv_at hl 2 rfl) ?_
      refine yp_11_112 X hw ra0 dX11_fuel_21 h (fun H locs u hw h => ?_)
      refine lv_iload_n hx hb dX11_fuel_24 rfl (lv_at hl 0 rfl) ?_
      exact hret _ _ _ _ _ _ rv1 h hw dX11_fuel_25
    · refine lv_iconst hx hb dX11_fuel_12 (v := jI (-1)) rfl ?_
      exact hret _ _ _ _ _ _ (by decide) h hw dX11_fuel_13

end
theorem e_11_fuel {l : Launch} {a0 : Int} (ra0 : inR a0) {Q : Int → iST → Prop} {u : iST} (h : v_11_fuel a0 Q u) : yMI l yX11_fuel (.code yX11_fuel cX11_fuel 3 (some .int) :: wsN) { frames := 0, cells := 0, slots := 0, locals := 0 } (fun ad => [.ref (ad 0 9), .int (jI a0)]) Q u := yMI_of (own := RX11) rfl (by decide +kernel) (fun _ => Nat.le_of_ble_eq_true rfl) (fun X hRf hRl hret hw hl => f_11_fuel_s X hRf hRl hret ra0 hw hl h)

/-! ProofHouse.forgetLatest -/
theorem dX11_forgetLatest_0 : decode cX11_forgetLatest 0 = .ok (.aload_n 0, 1) := by decide +kernel
theorem dX11_forgetLatest_1 : decode cX11_forgetLatest 1 = .ok (.getfield 45, 3) := by decide +kernel
theorem dX11_forgetLatest_4 : decode cX11_forgetLatest 4 = .ok (.invokevirtual 243, 3) := by decide +kernel
theorem dX11_forgetLatest_7 : decode cX11_forgetLatest 7 = .ok (.aload_n 0, 1) := by decide +kernel
theorem dX11_forgetLatest_8 : decode cX11_forgetLatest 8 = .ok (.getfield 14, 3) := by decide +kernel
theorem dX11_forgetLatest_11 : decode cX11_forgetLatest 11 = .ok (.aload_n 0, 1) := by decide +kernel
theorem dX11_forgetLatest_12 : decode cX11_forgetLatest 12 = .ok (.getfield 27, 3) := by decide +kernel
theorem dX11_forgetLatest_15 : decode cX11_forgetLatest 15 = .ok (.getfield 257, 3) := by decide +kernel
theorem dX11_forgetLatest_18 : decode cX11_forgetLatest 18 = .ok (.invokevirtual 260, 3) := by decide +kernel
theorem dX11_forgetLatest_21 : decode cX11_forgetLatest 21 = .ok (.aload_n 0, 1) := by decide +kernel
theorem dX11_forgetLatest_22 : decode cX11_forgetLatest 22 = .ok (.getfield 14, 3) := by decide +kernel
theorem dX11_forgetLatest_25 : decode cX11_forgetLatest 25 = .ok (.iconst 0, 1) := by decide +kernel
theorem dX11_forgetLatest_26 : decode cX11_forgetLatest 26 = .ok (.invokevirtual 160, 3) := by decide +kernel
theorem dX11_forgetLatest_29 : decode cX11_forgetLatest 29 = .ok (.aload_n 0, 1) := by decide +kernel
theorem dX11_forgetLatest_30 : decode cX11_forgetLatest 30 = .ok (.getfield 27, 3) := by decide +kernel
theorem dX11_forgetLatest_33 : decode cX11_forgetLatest 33 = .ok (.invokevirtual 263, 3) := by decide +kernel
theorem dX11_forgetLatest_36 : decode cX11_forgetLatest 36 = .ok (.aload_n 0, 1) := by decide +kernel
theorem dX11_forgetLatest_37 : decode cX11_forgetLatest 37 = .ok (.getfield 88, 3) := by decide +kernel
theorem dX11_forgetLatest_40 : decode cX11_forgetLatest 40 = .ok (.invokevirtual 266, 3) := by decide +kernel
theorem dX11_forgetLatest_43 : decode cX11_forgetLatest 43 = .ok (.aload_n 0, 1) := by decide +kernel
theorem dX11_forgetLatest_44 : decode cX11_forgetLatest 44 = .ok (.iconst (-1), 1) := by decide +kernel
theorem dX11_forgetLatest_45 : decode cX11_forgetLatest 45 = .ok (.putfield 115, 3) := by decide +kernel
theorem dX11_forgetLatest_48 : decode cX11_forgetLatest 48 = .ok (.aload_n 0, 1) := by decide +kernel
theorem dX11_forgetLatest_49 : decode cX11_forgetLatest 49 = .ok (.iconst (-1), 1) := by decide +kernel
theorem dX11_forgetLatest_50 : decode cX11_forgetLatest 50 = .ok (.putfield 118, 3) := by decide +kernel
theorem dX11_forgetLatest_53 : decode cX11_forgetLatest 53 = .ok (.aload_n 0, 1) := by decide +kernel
theorem dX11_forgetLatest_54 : decode cX11_forgetLatest 54 = .ok (.iconst (-1), 1) := by decide +kernel
theorem dX11_forgetLatest_55 : decode cX11_forgetLatest 55 = .ok (.putfield 121, 3) := by decide +kernel
theorem dX11_forgetLatest_58 : decode cX11_forgetLatest 58 = .ok (.aload_n 0, 1) := by decide +kernel
theorem dX11_forgetLatest_59 : decode cX11_forgetLatest 59 = .ok (.iconst 0, 1) := by decide +kernel
theorem dX11_forgetLatest_60 : decode cX11_forgetLatest 60 = .ok (.putfield 124, 3) := by decide +kernel
theorem dX11_forgetLatest_63 : decode cX11_forgetLatest 63 = .ok (.aload_n 0, 1) := by decide +kernel
theorem dX11_forgetLatest_64 : decode cX11_forgetLatest 64 = .ok (.iconst 0, 1) := by decide +kernel
theorem dX11_forgetLatest_65 : decode cX11_forgetLatest 65 = .ok (.putfield 127, 3) := by decide +kernel
theorem dX11_forgetLatest_68 : decode cX11_forgetLatest 68 = .ok (.aload_n 0, 1) := by decide +kernel
theorem dX11_forgetLatest_69 : decode cX11_forgetLatest 69 = .ok (.iconst 0, 1) := by decide +kernel
theorem dX11_forgetLatest_70 : decode cX11_forgetLatest 70 = .ok (.putfield 130, 3) := by decide +kernel
theorem dX11_forgetLatest_73 : decode cX11_forgetLatest 73 = .ok (.aload_n 0, 1) := by decide +kernel
theorem dX11_forgetLatest_74 : decode cX11_forgetLatest 74 = .ok (.iconst 0, 1) := by decide +kernel
theorem dX11_forgetLatest_75 : decode cX11_forgetLatest 75 = .ok (.putfield 133, 3) := by decide +kernel
theorem dX11_forgetLatest_78 : decode cX11_forgetLatest 78 = .ok (.return_, 1) := by decide +kernel

section
variable {p : Program} {l : Launch} {e : Env} {R : Room} {s : State} {m : MethodId} {args : Array Value} {below : List Frame} {meth : Method} {c : Code} {H : Heap} {locs : List Loc} {Qf : State → Prop}
variable {ls : Array Slot} {D : va_G} {ca : Nat → ClassId} {A : Nat → Prop} {ad : Nat → Nat → Nat} {u : iST}
def v_11_forgetLatest (Q : iST → Prop) (u : iST) : Prop :=
  v_9_clear 0 (fun u => 
  rd (u.1 3) (fun v2 => 
  v_7_forget v2 (fun u => 
  v_7_begin 0 (fun u => 
  v_0_muteNone (fun u => 
  v_4_begin (fun u => 
  sw (iI u 44 (-1)) (fun u => 
  sw (iI u 45 (-1)) (fun u => 
  sw (iI u 46 (-1)) (fun u => 
  sw (iI u 47 0) (fun u => 
  sw (iI u 48 0) (fun u => 
  sw (iI u 49 0) (fun u => 
  zt 0 (sw (iI u 50 0) (fun u => 
  Q u))))))))) u) u) u) u)) u
set_option maxRecDepth 20000 in
set_option maxHeartbeats 4000000 in
theorem f_11_forgetLatest_s (X : yX RX11 p m c cX11_forgetLatest 1 s args D ca ad A) (hRf : 2 ≤ R.frames) (hRl : 62 ≤ R.locals) {Q : iST → Prop} (hret : ∀ (u : iST) (H : Heap) (locs : List Loc) (ls : Array Slot) (pc : Nat), Q u → yW D ca A ad s H locs u → decode cX11_forgetLatest pc = .ok (.return_, 1) → W p l e R s m args below meth c H locs 0 0 Qf (F0 m pc ls [])) (hw : yW D ca A ad s H locs u) (hl : lv_has ls 1 [(0, .ref (ad 0 9))]) (h : v_11_forgetLatest Q u) : W p l e R s m args below meth c H locs 0 0 Qf (F0 m 0 ls []) := by
  have hx := X.1.1
  have hb := X.1.2.1
  unfold v_11_forgetLatest at h
  refine lv_aload_n hx hb dX11_forgetLatest_0 rfl (lv_at hl 0 rfl) ?_
  refine yg_11_45 X hw dX11_forgetLatest_1 ?_
  refine ycV (n := 0) (e_9_clear (by decide) h) 9 (2041 + (0 : Int).toNat) (r := (RX9, TX9, 4)) rfl yG_11_243 yD_9_clear X hw rfl (yGf_scribe (toNat_lt (by decide))) (Nat.le_trans (Nat.le_of_ble_eq_true rfl) hRf) (Nat.le_trans (Nat.le_of_ble_eq_true rfl) hRl) rfl hl.1 (Nat.le_of_ble_eq_true rfl) rfl dX11_forgetLatest_4 (fun u H locs h hw => ?_)
  refine lv_aload_n hx hb dX11_forgetLatest_7 rfl (lv_at hl 0 rfl) ?_
  refine yg_11_14 X hw dX11_forgetLatest_8 ?_
  refine lv_aload_n hx hb dX11_forgetLatest_11 rfl (lv_at hl 0 rfl) ?_
  refine yg_11_27 X hw dX11_forgetLatest_12 ?_
  refine yg_11_257 X hw dX11_forgetLatest_15 h (fun v2 rv2 h => ?_)
  refine ycV (n := 1) (e_7_forget rv2 h) 7 6 (r := (RX7, TX7, 9)) rfl yG_11_260 yD_7_forget X hw rfl yGo_7 (Nat.le_trans (Nat.le_of_ble_eq_true rfl) hRf) (Nat.le_trans (Nat.le_of_ble_eq_true rfl) hRl) rfl hl.1 (Nat.le_of_ble_eq_true rfl) rfl dX11_forgetLatest_18 (fun u H locs h hw => ?_)
  refine lv_aload_n hx hb dX11_forgetLatest_21 rfl (lv_at hl 0 rfl) ?_
  refine yg_11_14 X hw dX11_forgetLatest_22 ?_
  refine lv_iconst hx hb dX11_forgetLatest_25 (v := jI 0) rfl ?_
  refine ycV (n := 1) (e_7_begin (by decide) h) 7 6 (r := (RX7, TX7, 9)) rfl yG_11_160 yD_7_begin X hw rfl yGo_7 (Nat.le_trans (Nat.le_of_ble_eq_true rfl) hRf) (Nat.le_trans (Nat.le_of_ble_eq_true rfl) hRl) rfl hl.1 (Nat.le_of_ble_eq_true rfl) rfl dX11_forgetLatest_26 (fun u H locs h hw => ?_)
  refine lv_aload_n hx hb dX11_forgetLatest_29 rfl (lv_at hl 0 rfl) ?_
  refine yg_11_27 X hw dX11_forgetLatest_30 ?_
  refine ycV (n := 0) (e_0_muteNone h) 0 0 (r := (RX0, TX0, 21)) rfl yG_11_263 yD_0_muteNone X hw rfl yGo_0 (Nat.le_trans (Nat.le_of_ble_eq_true rfl) hRf) (Nat.le_trans (Nat.le_of_ble_eq_true rfl) hRl) rfl hl.1 (Nat.le_of_ble_eq_true rfl) rfl dX11_forgetLatest_33 (fun u H locs h hw => ?_)
  refine lv_aload_n hx hb dX11_forgetLatest_36 rfl (lv_at hl 0 rfl) ?_
  refine yg_11_88 X hw dX11_forgetLatest_37 ?_
  refine ycV (n := 0) (e_4_begin h) 4 3 (r := (RX4, TX4, 11)) rfl yG_11_266 yD_4_begin X hw rfl yGo_4 (Nat.le_trans (Nat.le_of_ble_eq_true rfl) hRf) (Nat.le_trans (Nat.le_of_ble_eq_true rfl) hRl) rfl hl.1 (Nat.le_of_ble_eq_true rfl) rfl dX11_forgetLatest_40 (fun u H locs h hw => ?_)
  refine lv_aload_n hx hb dX11_forgetLatest_43 rfl (lv_at hl 0 rfl) ?_
  refine lv_iconst hx hb dX11_forgetLatest_44 (v := jI (-1)) rfl ?_
  refine yp_11_115 X hw (by decide) dX11_forgetLatest_45 h (fun H locs u hw h => ?_)
  refine lv_aload_n hx hb dX11_forgetLatest_48 rfl (lv_at hl 0 rfl) ?_
  refine lv_iconst hx hb dX11_forgetLatest_49 (v := jI (-1)) rfl ?_
  refine yp_11_118 X hw (by decide) dX11_forgetLatest_50 h (fun H locs u hw h => ?_)
  refine lv_aload_n hx hb dX11_forgetLatest_53 rfl (lv_at hl 0 rfl) ?_
  refine lv_iconst hx hb dX11_forgetLatest_54 (v := jI (-1)) rfl ?_
  refine yp_11_121 X hw (by decide) dX11_forgetLatest_55 h (fun H locs u hw h => ?_)
  refine lv_aload_n hx hb dX11_forgetLatest_58 rfl (lv_at hl 0 rfl) ?_
  refine lv_iconst hx hb dX11_forgetLatest_59 (v := jI 0) rfl ?_
  refine yp_11_124 X hw (by decide) dX11_forgetLatest_60 h (fun H locs u hw h => ?_)
  refine lv_aload_n hx hb dX11_forgetLatest_63 rfl (lv_at hl 0 rfl) ?_
  refine lv_iconst hx hb dX11_forgetLatest_64 (v := jI 0) rfl ?_
  refine yp_11_127 X hw (by decide) dX11_forgetLatest_65 h (fun H locs u hw h => ?_)
  refine lv_aload_n hx hb dX11_forgetLatest_68 rfl (lv_at hl 0 rfl) ?_
  refine lv_iconst hx hb dX11_forgetLatest_69 (v := jI 0) rfl ?_
  refine yp_11_130 X hw (by decide) dX11_forgetLatest_70 h (fun H locs u hw h => ?_)
  refine lv_aload_n hx hb dX11_forgetLatest_73 rfl (lv_at hl 0 rfl) ?_
  refine lv_iconst hx hb dX11_forgetLatest_74 (v := jI 0) rfl ?_
  refine yp_11_133 X hw dX11_forgetLatest_75 h (fun H locs u hw h => ?_)
  exact hret _ _ _ _ _ h hw dX11_forgetLatest_78

end
theorem e_11_forgetLatest {l : Launch} {Q : iST → Prop} {u : iST} (h : v_11_forgetLatest Q u) : yMV l yX11_forgetLatest (.code yX11_forgetLatest cX11_forgetLatest 1 none :: wsN) { frames := 2, cells := 0, slots := 0, locals := 62 } (fun ad => [.ref (ad 0 9)]) Q u := yMV_of (own := RX11) rfl (by decide +kernel) (fun _ => Nat.le_of_ble_eq_true rfl) (fun X hRf hRl hret hw hl => f_11_forgetLatest_s X hRf hRl hret hw hl h)

/-! ProofHouse.isTermAt -/
theorem dX11_isTermAt_0 : decode cX11_isTermAt 0 = .ok (.aload_n 0, 1) := by decide +kernel
theorem dX11_isTermAt_1 : decode cX11_isTermAt 1 = .ok (.aload_n 0, 1) := by decide +kernel
theorem dX11_isTermAt_2 : decode cX11_isTermAt 2 = .ok (.getfield 54, 3) := by decide +kernel
theorem dX11_isTermAt_5 : decode cX11_isTermAt 5 = .ok (.aload_n 0, 1) := by decide +kernel
theorem dX11_isTermAt_6 : decode cX11_isTermAt 6 = .ok (.getfield 14, 3) := by decide +kernel
theorem dX11_isTermAt_9 : decode cX11_isTermAt 9 = .ok (.iload_n 1, 1) := by decide +kernel
theorem dX11_isTermAt_10 : decode cX11_isTermAt 10 = .ok (.iload_n 2, 1) := by decide +kernel
theorem dX11_isTermAt_11 : decode cX11_isTermAt 11 = .ok (.invokevirtual 173, 3) := by decide +kernel
theorem dX11_isTermAt_14 : decode cX11_isTermAt 14 = .ok (.iconst 0, 1) := by decide +kernel
theorem dX11_isTermAt_15 : decode cX11_isTermAt 15 = .ok (.invokevirtual 301, 3) := by decide +kernel
theorem dX11_isTermAt_18 : decode cX11_isTermAt 18 = .ok (.putfield 118, 3) := by decide +kernel
theorem dX11_isTermAt_21 : decode cX11_isTermAt 21 = .ok (.aload_n 0, 1) := by decide +kernel
theorem dX11_isTermAt_22 : decode cX11_isTermAt 22 = .ok (.getfield 118, 3) := by decide +kernel
theorem dX11_isTermAt_25 : decode cX11_isTermAt 25 = .ok (.iconst (-1), 1) := by decide +kernel
theorem dX11_isTermAt_26 : decode cX11_isTermAt 26 = .ok (.if_icmp .eq 7, 3) := by decide +kernel
theorem dX11_isTermAt_29 : decode cX11_isTermAt 29 = .ok (.iconst 1, 1) := by decide +kernel
theorem dX11_isTermAt_30 : decode cX11_isTermAt 30 = .ok (.goto 4, 3) := by decide +kernel
theorem dX11_isTermAt_33 : decode cX11_isTermAt 33 = .ok (.iconst 0, 1) := by decide +kernel
theorem dX11_isTermAt_34 : decode cX11_isTermAt 34 = .ok (.ireturn, 1) := by decide +kernel

section
variable {p : Program} {l : Launch} {e : Env} {R : Room} {s : State} {m : MethodId} {args : Array Value} {below : List Frame} {meth : Method} {c : Code} {H : Heap} {locs : List Loc} {Qf : State → Prop}
variable {ls : Array Slot} {D : va_G} {ca : Nat → ClassId} {A : Nat → Prop} {ad : Nat → Nat → Nat} {u : iST}
def v_11_isTermAt (a0 : Int) (a1 : Int) (Q : Int → iST → Prop) (u : iST) : Prop :=
  v_7_item a0 a1 (fun v1 u => 
  v_10_rebuilt v1 0 (fun v2 u => 
  sw (iI u 45 v2) (fun u => 
  rd (u.1 45) (fun v3 => 
  br (v3 = (-1)) (
    zt 0 (Q 0 u)) (
    zt 1 (Q 1 u))))) u) u
set_option maxRecDepth 20000 in
set_option maxHeartbeats 4000000 in
theorem f_11_isTermAt_s (X : yX RX11 p m c cX11_isTermAt 3 s args D ca ad A) (hRf : 3 ≤ R.frames) (hRl : 75 ≤ R.locals) {Q : Int → iST → Prop} (hret : ∀ (v : Int) (u : iST) (H : Heap) (locs : List Loc) (ls : Array Slot) (pc : Nat), bz v → Q v u → yW D ca A ad s H locs u → decode cX11_isTermAt pc = .ok (.ireturn, 1) → W p l e R s m args below meth c H locs 0 0 Qf (F0 m pc ls [.int (jI v)])) {a0 a1 : Int} (ra0 : inR a0) (ra1 : inR a1) (hw : yW D ca A ad s H locs u) (hl : lv_has ls 3 [(0, .ref (ad 0 9)), (1, .int (jI a0)), (2, .int (jI a1))]) (h : v_11_isTermAt a0 a1 Q u) : W p l e R s m args below meth c H locs 0 0 Qf (F0 m 0 ls []) := by
  have hx := X.1.1
  have hb := X.1.2.1
  unfold v_11_isTermAt at h
  refine lv_aload_n hx hb dX11_isTermAt_0 rfl (lv_at hl 0 rfl) ?_
  refine lv_aload_n hx hb dX11_isTermAt_1 rfl (lv_at hl 0 rfl) ?_
  refine yg_11_54 X hw dX11_isTermAt_2 ?_
  refine lv_aload_n hx hb dX11_isTermAt_5 rfl (lv_at hl 0 rfl) ?_
  refine yg_11_14 X hw dX11_isTermAt_6 ?_
  refine lv_iload_n hx hb dX11_isTermAt_9 rfl (lv_at hl 1 rfl) ?_
  refine lv_iload_n hx hb dX11_isTermAt_10 rfl (lv_at hl 2 rfl) ?_
  refine ycI (n := 2) (e_7_item ra0 ra1 h) 7 6 (r := (RX7, TX7, 9)) rfl yG_11_173 yD_7_item X hw rfl yGo_7 (Nat.le_trans (Nat.le_of_ble_eq_true rfl) hRf) (Nat.le_trans (Nat.le_of_ble_eq_true rfl) hRl) rfl hl.1 (Nat.le_of_ble_eq_true rfl) rfl dX11_isTermAt_11 (fun v1 u H locs rv1 h hw => ?_)
  refine lv_iconst hx hb dX11_isTermAt_14 (v := jI 0) rfl ?_
  refine ycI (n := 2) (e_10_rebuilt rv1 (by decide) h) 10 8 (r := (RX10, TX10, 16)) rfl yG_11_301 yD_10_rebuilt X hw rfl yGo_10 (Nat.le_trans (Nat.le_of_ble_eq_true rfl) hRf) (Nat.le_trans (Nat.le_of_ble_eq_true rfl) hRl) rfl hl.1 (Nat.le_of_ble_eq_true rfl) rfl dX11_isTermAt_15 (fun v2 u H locs rv2 h hw => ?_)
  refine yp_11_118 X hw rv2 dX11_isTermAt_18 h (fun H locs u hw h => ?_)
  refine lv_aload_n hx hb dX11_isTermAt_21 rfl (lv_at hl 0 rfl) ?_
  refine yg_11_118 X hw dX11_isTermAt_22 h (fun v3 rv3 h => ?_)
  refine lv_iconst hx hb dX11_isTermAt_25 (v := jI (-1)) rfl ?_
  refine k_icmp_eq hx hb rv3 (by decide) dX11_isTermAt_26 (tgt := 33) rfl h (fun h => ?_) (fun h => ?_)
  · refine lv_iconst hx hb dX11_isTermAt_33 (v := jI 0) rfl ?_
    exact hret _ _ _ _ _ _ h.1 h.2 hw dX11_isTermAt_34
  · refine lv_iconst hx hb dX11_isTermAt_29 (v := jI 1) rfl ?_
    refine lv_goto hx hb dX11_isTermAt_30 (tgt := 34) rfl ?_
    exact hret _ _ _ _ _ _ h.1 h.2 hw dX11_isTermAt_34

end
theorem e_11_isTermAt {l : Launch} {a0 : Int} {a1 : Int} (ra0 : inR a0) (ra1 : inR a1) {Q : Int → iST → Prop} {u : iST} (h : v_11_isTermAt a0 a1 Q u) : yMI l yX11_isTermAt (.code yX11_isTermAt cX11_isTermAt 3 (some .boolean) :: wsN) { frames := 3, cells := 0, slots := 0, locals := 75 } (fun ad => [.ref (ad 0 9), .int (jI a0), .int (jI a1)]) Q u := yMZ_of (own := RX11) rfl (by decide +kernel) (fun _ => Nat.le_of_ble_eq_true rfl) (fun X hRf hRl hret hw hl => f_11_isTermAt_s X hRf hRl hret ra0 ra1 hw hl h)

/-! ProofHouse.isNameAt -/
theorem dX11_isNameAt_0 : decode cX11_isNameAt 0 = .ok (.aload_n 0, 1) := by decide +kernel
theorem dX11_isNameAt_1 : decode cX11_isNameAt 1 = .ok (.aload_n 0, 1) := by decide +kernel
theorem dX11_isNameAt_2 : decode cX11_isNameAt 2 = .ok (.getfield 14, 3) := by decide +kernel
theorem dX11_isNameAt_5 : decode cX11_isNameAt 5 = .ok (.iload_n 1, 1) := by decide +kernel
theorem dX11_isNameAt_6 : decode cX11_isNameAt 6 = .ok (.iconst 1, 1) := by decide +kernel
theorem dX11_isNameAt_7 : decode cX11_isNameAt 7 = .ok (.invokevirtual 173, 3) := by decide +kernel
theorem dX11_isNameAt_10 : decode cX11_isNameAt 10 = .ok (.putfield 115, 3) := by decide +kernel
theorem dX11_isNameAt_13 : decode cX11_isNameAt 13 = .ok (.aload_n 0, 1) := by decide +kernel
theorem dX11_isNameAt_14 : decode cX11_isNameAt 14 = .ok (.getfield 14, 3) := by decide +kernel
theorem dX11_isNameAt_17 : decode cX11_isNameAt 17 = .ok (.aload_n 0, 1) := by decide +kernel
theorem dX11_isNameAt_18 : decode cX11_isNameAt 18 = .ok (.getfield 115, 3) := by decide +kernel
theorem dX11_isNameAt_21 : decode cX11_isNameAt 21 = .ok (.invokevirtual 298, 3) := by decide +kernel
theorem dX11_isNameAt_24 : decode cX11_isNameAt 24 = .ok (.ireturn, 1) := by decide +kernel

section
variable {p : Program} {l : Launch} {e : Env} {R : Room} {s : State} {m : MethodId} {args : Array Value} {below : List Frame} {meth : Method} {c : Code} {H : Heap} {locs : List Loc} {Qf : State → Prop}
variable {ls : Array Slot} {D : va_G} {ca : Nat → ClassId} {A : Nat → Prop} {ad : Nat → Nat → Nat} {u : iST}
def v_11_isNameAt (a0 : Int) (Q : Int → iST → Prop) (u : iST) : Prop :=
  v_7_item a0 1 (fun v1 u => 
  sw (iI u 44 v1) (fun u => 
  rd (u.1 44) (fun v2 => 
  v_7_isName v2 (fun v3 u => 
  zt v3 (Q v3 u)) u))) u
set_option maxRecDepth 20000 in
set_option maxHeartbeats 4000000 in
theorem f_11_isNameAt_s (X : yX RX11 p m c cX11_isNameAt 2 s args D ca ad A) (hRf : 1 ≤ R.frames) (hRl : 24 ≤ R.locals) {Q : Int → iST → Prop} (hret : ∀ (v : Int) (u : iST) (H : Heap) (locs : List Loc) (ls : Array Slot) (pc : Nat), bz v → Q v u → yW D ca A ad s H locs u → decode cX11_isNameAt pc = .ok (.ireturn, 1) → W p l e R s m args below meth c H locs 0 0 Qf (F0 m pc ls [.int (jI v)])) {a0 : Int} (ra0 : inR a0) (hw : yW D ca A ad s H locs u) (hl : lv_has ls 2 [(0, .ref (ad 0 9)), (1, .int (jI a0))]) (h : v_11_isNameAt a0 Q u) : W p l e R s m args below meth c H locs 0 0 Qf (F0 m 0 ls []) := by
  have hx := X.1.1
  have hb := X.1.2.1
  unfold v_11_isNameAt at h
  refine lv_aload_n hx hb dX11_isNameAt_0 rfl (lv_at hl 0 rfl) ?_
  refine lv_aload_n hx hb dX11_isNameAt_1 rfl (lv_at hl 0 rfl) ?_
  refine yg_11_14 X hw dX11_isNameAt_2 ?_
  refine lv_iload_n hx hb dX11_isNameAt_5 rfl (lv_at hl 1 rfl) ?_
  refine lv_iconst hx hb dX11_isNameAt_6 (v := jI 1) rfl ?_
  refine ycI (n := 2) (e_7_item ra0 (by decide) h) 7 6 (r := (RX7, TX7, 9)) rfl yG_11_173 yD_7_item X hw rfl yGo_7 (Nat.le_trans (Nat.le_of_ble_eq_true rfl) hRf) (Nat.le_trans (Nat.le_of_ble_eq_true rfl) hRl) rfl hl.1 (Nat.le_of_ble_eq_true rfl) rfl dX11_isNameAt_7 (fun v1 u H locs rv1 h hw => ?_)
  refine yp_11_115 X hw rv1 dX11_isNameAt_10 h (fun H locs u hw h => ?_)
  refine lv_aload_n hx hb dX11_isNameAt_13 rfl (lv_at hl 0 rfl) ?_
  refine yg_11_14 X hw dX11_isNameAt_14 ?_
  refine lv_aload_n hx hb dX11_isNameAt_17 rfl (lv_at hl 0 rfl) ?_
  refine yg_11_115 X hw dX11_isNameAt_18 h (fun v2 rv2 h => ?_)
  refine ycI (n := 1) (e_7_isName rv2 h) 7 6 (r := (RX7, TX7, 9)) rfl yG_11_298 yD_7_isName X hw rfl yGo_7 (Nat.le_trans (Nat.le_of_ble_eq_true rfl) hRf) (Nat.le_trans (Nat.le_of_ble_eq_true rfl) hRl) rfl hl.1 (Nat.le_of_ble_eq_true rfl) rfl dX11_isNameAt_21 (fun v3 u H locs rv3 h hw => ?_)
  exact hret _ _ _ _ _ _ h.1 h.2 hw dX11_isNameAt_24

end
theorem e_11_isNameAt {l : Launch} {a0 : Int} (ra0 : inR a0) {Q : Int → iST → Prop} {u : iST} (h : v_11_isNameAt a0 Q u) : yMI l yX11_isNameAt (.code yX11_isNameAt cX11_isNameAt 2 (some .boolean) :: wsN) { frames := 1, cells := 0, slots := 0, locals := 24 } (fun ad => [.ref (ad 0 9), .int (jI a0)]) Q u := yMZ_of (own := RX11) rfl (by decide +kernel) (fun _ => Nat.le_of_ble_eq_true rfl) (fun X hRf hRl hret hw hl => f_11_isNameAt_s X hRf hRl hret ra0 hw hl h)

/-! ProofHouse.isDefinition -/
theorem dX11_isDefinition_0 : decode cX11_isDefinition 0 = .ok (.aload_n 0, 1) := by decide +kernel
theorem dX11_isDefinition_1 : decode cX11_isDefinition 1 = .ok (.getfield 14, 3) := by decide +kernel
theorem dX11_isDefinition_4 : decode cX11_isDefinition 4 = .ok (.iload_n 1, 1) := by decide +kernel
theorem dX11_isDefinition_5 : decode cX11_isDefinition 5 = .ok (.iconst 2, 1) := by decide +kernel
theorem dX11_isDefinition_6 : decode cX11_isDefinition 6 = .ok (.invokevirtual 173, 3) := by decide +kernel
theorem dX11_isDefinition_9 : decode cX11_isDefinition 9 = .ok (.istore_n 3, 1) := by decide +kernel
theorem dX11_isDefinition_10 : decode cX11_isDefinition 10 = .ok (.aload_n 0, 1) := by decide +kernel
theorem dX11_isDefinition_11 : decode cX11_isDefinition 11 = .ok (.getfield 14, 3) := by decide +kernel
theorem dX11_isDefinition_14 : decode cX11_isDefinition 14 = .ok (.iload_n 3, 1) := by decide +kernel
theorem dX11_isDefinition_15 : decode cX11_isDefinition 15 = .ok (.invokevirtual 278, 3) := by decide +kernel
theorem dX11_isDefinition_18 : decode cX11_isDefinition 18 = .ok (.istore 4, 2) := by decide +kernel
theorem dX11_isDefinition_20 : decode cX11_isDefinition 20 = .ok (.iload 4, 2) := by decide +kernel
theorem dX11_isDefinition_22 : decode cX11_isDefinition 22 = .ok (.ifCond .lt 21, 3) := by decide +kernel
theorem dX11_isDefinition_25 : decode cX11_isDefinition 25 = .ok (.iload 4, 2) := by decide +kernel
theorem dX11_isDefinition_27 : decode cX11_isDefinition 27 = .ok (.bipush 6, 2) := by decide +kernel
theorem dX11_isDefinition_29 : decode cX11_isDefinition 29 = .ok (.if_icmp .gt 14, 3) := by decide +kernel
theorem dX11_isDefinition_32 : decode cX11_isDefinition 32 = .ok (.aload_n 0, 1) := by decide +kernel
theorem dX11_isDefinition_33 : decode cX11_isDefinition 33 = .ok (.getfield 54, 3) := by decide +kernel
theorem dX11_isDefinition_36 : decode cX11_isDefinition 36 = .ok (.iload_n 3, 1) := by decide +kernel
theorem dX11_isDefinition_37 : decode cX11_isDefinition 37 = .ok (.invokevirtual 304, 3) := by decide +kernel
theorem dX11_isDefinition_40 : decode cX11_isDefinition 40 = .ok (.ifCond .ne 5, 3) := by decide +kernel
theorem dX11_isDefinition_43 : decode cX11_isDefinition 43 = .ok (.iconst 0, 1) := by decide +kernel
theorem dX11_isDefinition_44 : decode cX11_isDefinition 44 = .ok (.ireturn, 1) := by decide +kernel
theorem dX11_isDefinition_45 : decode cX11_isDefinition 45 = .ok (.aload_n 0, 1) := by decide +kernel
theorem dX11_isDefinition_46 : decode cX11_isDefinition 46 = .ok (.getfield 54, 3) := by decide +kernel
theorem dX11_isDefinition_49 : decode cX11_isDefinition 49 = .ok (.aload_n 0, 1) := by decide +kernel
theorem dX11_isDefinition_50 : decode cX11_isDefinition 50 = .ok (.getfield 115, 3) := by decide +kernel
theorem dX11_isDefinition_53 : decode cX11_isDefinition 53 = .ok (.putfield 307, 3) := by decide +kernel
theorem dX11_isDefinition_56 : decode cX11_isDefinition 56 = .ok (.aload_n 0, 1) := by decide +kernel
theorem dX11_isDefinition_57 : decode cX11_isDefinition 57 = .ok (.getfield 54, 3) := by decide +kernel
theorem dX11_isDefinition_60 : decode cX11_isDefinition 60 = .ok (.iload 4, 2) := by decide +kernel
theorem dX11_isDefinition_62 : decode cX11_isDefinition 62 = .ok (.putfield 310, 3) := by decide +kernel
theorem dX11_isDefinition_65 : decode cX11_isDefinition 65 = .ok (.aload_n 0, 1) := by decide +kernel
theorem dX11_isDefinition_66 : decode cX11_isDefinition 66 = .ok (.aload_n 0, 1) := by decide +kernel
theorem dX11_isDefinition_67 : decode cX11_isDefinition 67 = .ok (.getfield 54, 3) := by decide +kernel
theorem dX11_isDefinition_70 : decode cX11_isDefinition 70 = .ok (.aload_n 0, 1) := by decide +kernel
theorem dX11_isDefinition_71 : decode cX11_isDefinition 71 = .ok (.getfield 14, 3) := by decide +kernel
theorem dX11_isDefinition_74 : decode cX11_isDefinition 74 = .ok (.iload_n 1, 1) := by decide +kernel
theorem dX11_isDefinition_75 : decode cX11_isDefinition 75 = .ok (.iconst 3, 1) := by decide +kernel
theorem dX11_isDefinition_76 : decode cX11_isDefinition 76 = .ok (.invokevirtual 173, 3) := by decide +kernel
theorem dX11_isDefinition_79 : decode cX11_isDefinition 79 = .ok (.iconst 0, 1) := by decide +kernel
theorem dX11_isDefinition_80 : decode cX11_isDefinition 80 = .ok (.invokevirtual 301, 3) := by decide +kernel
theorem dX11_isDefinition_83 : decode cX11_isDefinition 83 = .ok (.putfield 118, 3) := by decide +kernel
theorem dX11_isDefinition_86 : decode cX11_isDefinition 86 = .ok (.aload_n 0, 1) := by decide +kernel
theorem dX11_isDefinition_87 : decode cX11_isDefinition 87 = .ok (.getfield 54, 3) := by decide +kernel
theorem dX11_isDefinition_90 : decode cX11_isDefinition 90 = .ok (.iconst (-1), 1) := by decide +kernel
theorem dX11_isDefinition_91 : decode cX11_isDefinition 91 = .ok (.putfield 310, 3) := by decide +kernel
theorem dX11_isDefinition_94 : decode cX11_isDefinition 94 = .ok (.aload_n 0, 1) := by decide +kernel
theorem dX11_isDefinition_95 : decode cX11_isDefinition 95 = .ok (.iload_n 2, 1) := by decide +kernel
theorem dX11_isDefinition_96 : decode cX11_isDefinition 96 = .ok (.ifCond .eq 23, 3) := by decide +kernel
theorem dX11_isDefinition_99 : decode cX11_isDefinition 99 = .ok (.aload_n 0, 1) := by decide +kernel
theorem dX11_isDefinition_100 : decode cX11_isDefinition 100 = .ok (.getfield 54, 3) := by decide +kernel
theorem dX11_isDefinition_103 : decode cX11_isDefinition 103 = .ok (.aload_n 0, 1) := by decide +kernel
theorem dX11_isDefinition_104 : decode cX11_isDefinition 104 = .ok (.getfield 14, 3) := by decide +kernel
theorem dX11_isDefinition_107 : decode cX11_isDefinition 107 = .ok (.iload_n 1, 1) := by decide +kernel
theorem dX11_isDefinition_108 : decode cX11_isDefinition 108 = .ok (.iconst 4, 1) := by decide +kernel
theorem dX11_isDefinition_109 : decode cX11_isDefinition 109 = .ok (.invokevirtual 173, 3) := by decide +kernel
theorem dX11_isDefinition_112 : decode cX11_isDefinition 112 = .ok (.iconst 0, 1) := by decide +kernel
theorem dX11_isDefinition_113 : decode cX11_isDefinition 113 = .ok (.invokevirtual 301, 3) := by decide +kernel
theorem dX11_isDefinition_116 : decode cX11_isDefinition 116 = .ok (.goto 4, 3) := by decide +kernel
theorem dX11_isDefinition_119 : decode cX11_isDefinition 119 = .ok (.iconst (-1), 1) := by decide +kernel
theorem dX11_isDefinition_120 : decode cX11_isDefinition 120 = .ok (.putfield 121, 3) := by decide +kernel
theorem dX11_isDefinition_123 : decode cX11_isDefinition 123 = .ok (.aload_n 0, 1) := by decide +kernel
theorem dX11_isDefinition_124 : decode cX11_isDefinition 124 = .ok (.getfield 54, 3) := by decide +kernel
theorem dX11_isDefinition_127 : decode cX11_isDefinition 127 = .ok (.iconst (-1), 1) := by decide +kernel
theorem dX11_isDefinition_128 : decode cX11_isDefinition 128 = .ok (.putfield 307, 3) := by decide +kernel
theorem dX11_isDefinition_131 : decode cX11_isDefinition 131 = .ok (.aload_n 0, 1) := by decide +kernel
theorem dX11_isDefinition_132 : decode cX11_isDefinition 132 = .ok (.getfield 118, 3) := by decide +kernel
theorem dX11_isDefinition_135 : decode cX11_isDefinition 135 = .ok (.iconst (-1), 1) := by decide +kernel
theorem dX11_isDefinition_136 : decode cX11_isDefinition 136 = .ok (.if_icmp .eq 15, 3) := by decide +kernel
theorem dX11_isDefinition_139 : decode cX11_isDefinition 139 = .ok (.iload_n 2, 1) := by decide +kernel
theorem dX11_isDefinition_140 : decode cX11_isDefinition 140 = .ok (.ifCond .eq 13, 3) := by decide +kernel
theorem dX11_isDefinition_143 : decode cX11_isDefinition 143 = .ok (.aload_n 0, 1) := by decide +kernel
theorem dX11_isDefinition_144 : decode cX11_isDefinition 144 = .ok (.getfield 121, 3) := by decide +kernel
theorem dX11_isDefinition_147 : decode cX11_isDefinition 147 = .ok (.iconst (-1), 1) := by decide +kernel
theorem dX11_isDefinition_148 : decode cX11_isDefinition 148 = .ok (.if_icmp .ne 5, 3) := by decide +kernel
theorem dX11_isDefinition_151 : decode cX11_isDefinition 151 = .ok (.iconst 0, 1) := by decide +kernel
theorem dX11_isDefinition_152 : decode cX11_isDefinition 152 = .ok (.ireturn, 1) := by decide +kernel
theorem dX11_isDefinition_153 : decode cX11_isDefinition 153 = .ok (.aload_n 0, 1) := by decide +kernel
theorem dX11_isDefinition_154 : decode cX11_isDefinition 154 = .ok (.getfield 54, 3) := by decide +kernel
theorem dX11_isDefinition_157 : decode cX11_isDefinition 157 = .ok (.aload_n 0, 1) := by decide +kernel
theorem dX11_isDefinition_158 : decode cX11_isDefinition 158 = .ok (.getfield 118, 3) := by decide +kernel
theorem dX11_isDefinition_161 : decode cX11_isDefinition 161 = .ok (.aload_n 0, 1) := by decide +kernel
theorem dX11_isDefinition_162 : decode cX11_isDefinition 162 = .ok (.getfield 115, 3) := by decide +kernel
theorem dX11_isDefinition_165 : decode cX11_isDefinition 165 = .ok (.invokevirtual 313, 3) := by decide +kernel
theorem dX11_isDefinition_168 : decode cX11_isDefinition 168 = .ok (.iload_n 2, 1) := by decide +kernel
theorem dX11_isDefinition_169 : decode cX11_isDefinition 169 = .ok (.if_icmp .ne 59, 3) := by decide +kernel
theorem dX11_isDefinition_172 : decode cX11_isDefinition 172 = .ok (.aload_n 0, 1) := by decide +kernel
theorem dX11_isDefinition_173 : decode cX11_isDefinition 173 = .ok (.getfield 79, 3) := by decide +kernel
theorem dX11_isDefinition_176 : decode cX11_isDefinition 176 = .ok (.aload_n 0, 1) := by decide +kernel
theorem dX11_isDefinition_177 : decode cX11_isDefinition 177 = .ok (.getfield 115, 3) := by decide +kernel
theorem dX11_isDefinition_180 : decode cX11_isDefinition 180 = .ok (.aload_n 0, 1) := by decide +kernel
theorem dX11_isDefinition_181 : decode cX11_isDefinition 181 = .ok (.getfield 118, 3) := by decide +kernel
theorem dX11_isDefinition_184 : decode cX11_isDefinition 184 = .ok (.invokevirtual 316, 3) := by decide +kernel
theorem dX11_isDefinition_187 : decode cX11_isDefinition 187 = .ok (.ifCond .eq 41, 3) := by decide +kernel
theorem dX11_isDefinition_190 : decode cX11_isDefinition 190 = .ok (.aload_n 0, 1) := by decide +kernel
theorem dX11_isDefinition_191 : decode cX11_isDefinition 191 = .ok (.getfield 54, 3) := by decide +kernel
theorem dX11_isDefinition_194 : decode cX11_isDefinition 194 = .ok (.aload_n 0, 1) := by decide +kernel
theorem dX11_isDefinition_195 : decode cX11_isDefinition 195 = .ok (.getfield 118, 3) := by decide +kernel
theorem dX11_isDefinition_198 : decode cX11_isDefinition 198 = .ok (.iload_n 3, 1) := by decide +kernel
theorem dX11_isDefinition_199 : decode cX11_isDefinition 199 = .ok (.invokevirtual 285, 3) := by decide +kernel
theorem dX11_isDefinition_202 : decode cX11_isDefinition 202 = .ok (.ifCond .eq 26, 3) := by decide +kernel
theorem dX11_isDefinition_205 : decode cX11_isDefinition 205 = .ok (.iload_n 2, 1) := by decide +kernel
theorem dX11_isDefinition_206 : decode cX11_isDefinition 206 = .ok (.ifCond .eq 18, 3) := by decide +kernel
theorem dX11_isDefinition_209 : decode cX11_isDefinition 209 = .ok (.aload_n 0, 1) := by decide +kernel
theorem dX11_isDefinition_210 : decode cX11_isDefinition 210 = .ok (.getfield 54, 3) := by decide +kernel
theorem dX11_isDefinition_213 : decode cX11_isDefinition 213 = .ok (.aload_n 0, 1) := by decide +kernel
theorem dX11_isDefinition_214 : decode cX11_isDefinition 214 = .ok (.getfield 121, 3) := by decide +kernel
theorem dX11_isDefinition_217 : decode cX11_isDefinition 217 = .ok (.iload_n 3, 1) := by decide +kernel
theorem dX11_isDefinition_218 : decode cX11_isDefinition 218 = .ok (.invokevirtual 285, 3) := by decide +kernel
theorem dX11_isDefinition_221 : decode cX11_isDefinition 221 = .ok (.ifCond .eq 7, 3) := by decide +kernel
theorem dX11_isDefinition_224 : decode cX11_isDefinition 224 = .ok (.iconst 1, 1) := by decide +kernel
theorem dX11_isDefinition_225 : decode cX11_isDefinition 225 = .ok (.goto 4, 3) := by decide +kernel
theorem dX11_isDefinition_228 : decode cX11_isDefinition 228 = .ok (.iconst 0, 1) := by decide +kernel
theorem dX11_isDefinition_229 : decode cX11_isDefinition 229 = .ok (.ireturn, 1) := by decide +kernel

section
variable {p : Program} {l : Launch} {e : Env} {R : Room} {s : State} {m : MethodId} {args : Array Value} {below : List Frame} {meth : Method} {c : Code} {H : Heap} {locs : List Loc} {Qf : State → Prop}
variable {ls : Array Slot} {D : va_G} {ca : Nat → ClassId} {A : Nat → Prop} {ad : Nat → Nat → Nat} {u : iST}
def v_11_isDefinition_153 (Q : Int → iST → Prop) (x2 : Int) (x3 : Int) (u : iST) : Prop :=
  rd (u.1 45) (fun v8 => 
  rd (u.1 44) (fun v9 => 
  v_10_hasCallOf v8 v9 (fun v10 u => 
  br (v10 ≠ x2) (
    zt 0 (Q 0 u)) (
    rd (u.1 44) (fun v11 => 
    rd (u.1 45) (fun v12 => 
    v_8_isFlat v11 v12 (fun v13 u => 
    br (v13 = 0) (
      zt 0 (Q 0 u)) (
      rd (u.1 45) (fun v14 => 
      v_10_hasVariablesOf v14 x3 (fun v15 u => 
      br (v15 = 0) (
        zt 0 (Q 0 u)) (
        br (x2 = 0) (
          zt 1 (Q 1 u)) (
          rd (u.1 46) (fun v16 => 
          v_10_hasVariablesOf v16 x3 (fun v17 u => 
          br (v17 = 0) (
            zt 0 (Q 0 u)) (
            zt 1 (Q 1 u))) u)))) u))) u)))) u))
set_option maxRecDepth 20000 in
set_option maxHeartbeats 4000000 in
theorem f_11_isDefinition_153 (X : yX RX11 p m c cX11_isDefinition 5 s args D ca ad A) (hRf : 4 ≤ R.frames) (hRl : 100 ≤ R.locals) {Q : Int → iST → Prop} (hret : ∀ (v : Int) (u : iST) (H : Heap) (locs : List Loc) (ls : Array Slot) (pc : Nat), bz v → Q v u → yW D ca A ad s H locs u → decode cX11_isDefinition pc = .ok (.ireturn, 1) → W p l e R s m args below meth c H locs 0 0 Qf (F0 m pc ls [.int (jI v)])) {x2 x3 : Int} (rx2 : inR x2) (rx3 : inR x3) (hw : yW D ca A ad s H locs u) (hl : lv_has ls 5 [(0, .ref (ad 0 9)), (2, .int (jI x2)), (3, .int (jI x3))]) (h : v_11_isDefinition_153 Q x2 x3 u) : W p l e R s m args below meth c H locs 0 0 Qf (F0 m 153 ls []) := by
  have hx := X.1.1
  have hb := X.1.2.1
  unfold v_11_isDefinition_153 at h
  refine lv_aload_n hx hb dX11_isDefinition_153 rfl (lv_at hl 0 rfl) ?_
  refine yg_11_54 X hw dX11_isDefinition_154 ?_
  refine lv_aload_n hx hb dX11_isDefinition_157 rfl (lv_at hl 0 rfl) ?_
  refine yg_11_118 X hw dX11_isDefinition_158 h (fun v8 rv8 h => ?_)
  refine lv_aload_n hx hb dX11_isDefinition_161 rfl (lv_at hl 0 rfl) ?_
  refine yg_11_115 X hw dX11_isDefinition_162 h (fun v9 rv9 h => ?_)
  refine ycI (n := 2) (e_10_hasCallOf rv8 rv9 h) 10 8 (r := (RX10, TX10, 16)) rfl yG_11_313 yD_10_hasCallOf X hw rfl yGo_10 (Nat.le_trans (Nat.le_of_ble_eq_true rfl) hRf) (Nat.le_trans (Nat.le_of_ble_eq_true rfl) hRl) rfl hl.1 (Nat.le_of_ble_eq_true rfl) rfl dX11_isDefinition_165 (fun v10 u H locs rv10 h hw => ?_)
  refine lv_iload_n hx hb dX11_isDefinition_168 rfl (lv_at hl 1 rfl) ?_
  refine k_icmp_ne hx hb rv10 rx2 dX11_isDefinition_169 (tgt := 228) rfl h (fun h => ?_) (fun h => ?_)
  · refine lv_iconst hx hb dX11_isDefinition_228 (v := jI 0) rfl ?_
    exact hret _ _ _ _ _ _ h.1 h.2 hw dX11_isDefinition_229
  · refine lv_aload_n hx hb dX11_isDefinition_172 rfl (lv_at hl 0 rfl) ?_
    refine yg_11_79 X hw dX11_isDefinition_173 ?_
    refine lv_aload_n hx hb dX11_isDefinition_176 rfl (lv_at hl 0 rfl) ?_
    refine yg_11_115 X hw dX11_isDefinition_177 h (fun v11 rv11 h => ?_)
    refine lv_aload_n hx hb dX11_isDefinition_180 rfl (lv_at hl 0 rfl) ?_
    refine yg_11_118 X hw dX11_isDefinition_181 h (fun v12 rv12 h => ?_)
    refine ycI (n := 2) (e_8_isFlat rv11 rv12 h) 8 7 (r := (RX8, TX8, 11)) rfl yG_11_316 yD_8_isFlat X hw rfl yGo_8 (Nat.le_trans (Nat.le_of_ble_eq_true rfl) hRf) (Nat.le_trans (Nat.le_of_ble_eq_true rfl) hRl) rfl hl.1 (Nat.le_of_ble_eq_true rfl) rfl dX11_isDefinition_184 (fun v13 u H locs rv13 h hw => ?_)
    refine k_if_eq hx hb rv13 dX11_isDefinition_187 (tgt := 228) rfl h (fun h => ?_) (fun h => ?_)
    · refine lv_iconst hx hb dX11_isDefinition_228 (v := jI 0) rfl ?_
      exact hret _ _ _ _ _ _ h.1 h.2 hw dX11_isDefinition_229
    · refine lv_aload_n hx hb dX11_isDefinition_190 rfl (lv_at hl 0 rfl) ?_
      refine yg_11_54 X hw dX11_isDefinition_191 ?_
      refine lv_aload_n hx hb dX11_isDefinition_194 rfl (lv_at hl 0 rfl) ?_
      refine yg_11_118 X hw dX11_isDefinition_195 h (fun v14 rv14 h => ?_)
      refine lv_iload_n hx hb dX11_isDefinition_198 rfl (lv_at hl 2 rfl) ?_
      refine ycI (n := 2) (e_10_hasVariablesOf rv14 rx3 h) 10 8 (r := (RX10, TX10, 16)) rfl yG_11_285 yD_10_hasVariablesOf X hw rfl yGo_10 (Nat.le_trans (Nat.le_of_ble_eq_true rfl) hRf) (Nat.le_trans (Nat.le_of_ble_eq_true rfl) hRl) rfl hl.1 (Nat.le_of_ble_eq_true rfl) rfl dX11_isDefinition_199 (fun v15 u H locs rv15 h hw => ?_)
      refine k_if_eq hx hb rv15 dX11_isDefinition_202 (tgt := 228) rfl h (fun h => ?_) (fun h => ?_)
      · refine lv_iconst hx hb dX11_isDefinition_228 (v := jI 0) rfl ?_
        exact hret _ _ _ _ _ _ h.1 h.2 hw dX11_isDefinition_229
      · refine lv_iload_n hx hb dX11_isDefinition_205 rfl (lv_at hl 1 rfl) ?_
        refine k_if_eq hx hb rx2 dX11_isDefinition_206 (tgt := 224) rfl h (fun h => ?_) (fun h => ?_)
        · refine lv_iconst hx hb dX11_isDefinition_224 (v := jI 1) rfl ?_
          refine lv_goto hx hb dX11_isDefinition_225 (tgt := 229) rfl ?_
          exact hret _ _ _ _ _ _ h.1 h.2 hw dX11_isDefinition_229
        · refine lv_aload_n hx hb dX11_isDefinition_209 rfl (lv_at hl 0 rfl) ?_
          refine yg_11_54 X hw dX11_isDefinition_210 ?_
          refine lv_aload_n hx hb dX11_isDefinition_213 rfl (lv_at hl 0 rfl) ?_
          refine yg_11_121 X hw dX11_isDefinition_214 h (fun v16 rv16 h => ?_)
          refine lv_iload_n hx hb dX11_isDefinition_217 rfl (lv_at hl 2 rfl) ?_
          refine ycI (n := 2) (e_10_hasVariablesOf rv16 rx3 h) 10 8 (r := (RX10, TX10, 16)) rfl yG_11_285 yD_10_hasVariablesOf X hw rfl yGo_10 (Nat.le_trans (Nat.le_of_ble_eq_true rfl) hRf) (Nat.le_trans (Nat.le_of_ble_eq_true rfl) hRl) rfl hl.1 (Nat.le_of_ble_eq_true rfl) rfl dX11_isDefinition_218 (fun v17 u H locs rv17 h hw => ?_)
          refine k_if_eq hx hb rv17 dX11_isDefinition_221 (tgt := 228) rfl h (fun h => ?_) (fun h => ?_)
          · refine lv_iconst hx hb dX11_isDefinition_228 (v := jI 0) rfl ?_
            exact hret _ _ _ _ _ _ h.1 h.2 hw dX11_isDefinition_229
          · refine lv_iconst hx hb dX11_isDefinition_224 (v := jI 1) rfl ?_
            refine lv_goto hx hb dX11_isDefinition_225 (tgt := 229) rfl ?_
            exact hret _ _ _ _ _ _ h.1 h.2 hw dX11_isDefinition_229

def v_11_isDefinition_120 (Q : Int → iST → Prop) (x2 : Int) (x3 : Int) (y1 : Int) (u : iST) : Prop :=
  sw (iI u 46 y1) (fun u => 
  sw (iI u 37 (-1)) (fun u => 
  rd (u.1 45) (fun v7 => 
  br (v7 = (-1)) (
    zt 0 (Q 0 u)) (
    br (x2 = 0) (
      v_11_isDefinition_153 Q x2 x3 u) (
      rd (u.1 46) (fun v18 => 
      br (v18 ≠ (-1)) (
        v_11_isDefinition_153 Q x2 x3 u) (
        zt 0 (Q 0 u))))))))
set_option maxRecDepth 20000 in
set_option maxHeartbeats 4000000 in
theorem f_11_isDefinition_120 (X : yX RX11 p m c cX11_isDefinition 5 s args D ca ad A) (hRf : 4 ≤ R.frames) (hRl : 100 ≤ R.locals) {Q : Int → iST → Prop} (hret : ∀ (v : Int) (u : iST) (H : Heap) (locs : List Loc) (ls : Array Slot) (pc : Nat), bz v → Q v u → yW D ca A ad s H locs u → decode cX11_isDefinition pc = .ok (.ireturn, 1) → W p l e R s m args below meth c H locs 0 0 Qf (F0 m pc ls [.int (jI v)])) {x2 x3 y1 : Int} (rx2 : inR x2) (rx3 : inR x3) (ry1 : inR y1) (hw : yW D ca A ad s H locs u) (hl : lv_has ls 5 [(0, .ref (ad 0 9)), (2, .int (jI x2)), (3, .int (jI x3))]) (h : v_11_isDefinition_120 Q x2 x3 y1 u) : W p l e R s m args below meth c H locs 0 0 Qf (F0 m 120 ls [.int (jI y1), .ref (ad 0 9)]) := by
  have hx := X.1.1
  have hb := X.1.2.1
  unfold v_11_isDefinition_120 at h
  refine yp_11_121 X hw ry1 dX11_isDefinition_120 h (fun H locs u hw h => ?_)
  refine lv_aload_n hx hb dX11_isDefinition_123 rfl (lv_at hl 0 rfl) ?_
  refine yg_11_54 X hw dX11_isDefinition_124 ?_
  refine lv_iconst hx hb dX11_isDefinition_127 (v := jI (-1)) rfl ?_
  refine yp_11_307 X hw (by decide) dX11_isDefinition_128 h (fun H locs u hw h => ?_)
  refine lv_aload_n hx hb dX11_isDefinition_131 rfl (lv_at hl 0 rfl) ?_
  refine yg_11_118 X hw dX11_isDefinition_132 h (fun v7 rv7 h => ?_)
  refine lv_iconst hx hb dX11_isDefinition_135 (v := jI (-1)) rfl ?_
  refine k_icmp_eq hx hb rv7 (by decide) dX11_isDefinition_136 (tgt := 151) rfl h (fun h => ?_) (fun h => ?_)
  · refine lv_iconst hx hb dX11_isDefinition_151 (v := jI 0) rfl ?_
    exact hret _ _ _ _ _ _ h.1 h.2 hw dX11_isDefinition_152
  · refine lv_iload_n hx hb dX11_isDefinition_139 rfl (lv_at hl 1 rfl) ?_
    refine k_if_eq hx hb rx2 dX11_isDefinition_140 (tgt := 153) rfl h (fun h => ?_) (fun h => ?_)
    · exact f_11_isDefinition_153 X hRf hRl hret rx2 rx3 hw hl h
    · refine lv_aload_n hx hb dX11_isDefinition_143 rfl (lv_at hl 0 rfl) ?_
      refine yg_11_121 X hw dX11_isDefinition_144 h (fun v18 rv18 h => ?_)
      refine lv_iconst hx hb dX11_isDefinition_147 (v := jI (-1)) rfl ?_
      refine k_icmp_ne hx hb rv18 (by decide) dX11_isDefinition_148 (tgt := 153) rfl h (fun h => ?_) (fun h => ?_)
      · exact f_11_isDefinition_153 X hRf hRl hret rx2 rx3 hw hl h
      · refine lv_iconst hx hb dX11_isDefinition_151 (v := jI 0) rfl ?_
        exact hret _ _ _ _ _ _ h.1 h.2 hw dX11_isDefinition_152

def v_11_isDefinition (a0 : Int) (a1 : Int) (Q : Int → iST → Prop) (u : iST) : Prop :=
  v_7_item a0 2 (fun v1 u => 
  v_7_lengthOf v1 (fun v2 u => 
  br (v2 < 0) (
    zt 0 (Q 0 u)) (
    br (6 < v2) (
      zt 0 (Q 0 u)) (
      v_10_areDifferentVariables v1 (fun v3 u => 
      br (v3 ≠ 0) (
        rd (u.1 44) (fun v4 => 
        sw (iI u 37 v4) (fun u => 
        sw (iI u 38 v2) (fun u => 
        v_7_item a0 3 (fun v5 u => 
        v_10_rebuilt v5 0 (fun v6 u => 
        sw (iI u 45 v6) (fun u => 
        sw (iI u 38 (-1)) (fun u => 
        br (a1 = 0) (
          v_11_isDefinition_120 Q a1 v1 (-1) u) (
          v_7_item a0 4 (fun v19 u => 
          v_10_rebuilt v19 0 (fun v20 u => 
          v_11_isDefinition_120 Q a1 v1 v20 u) u) u)))) u) u)))) (
        zt 0 (Q 0 u))) u))) u) u
set_option maxRecDepth 20000 in
set_option maxHeartbeats 4000000 in
theorem f_11_isDefinition_s (X : yX RX11 p m c cX11_isDefinition 5 s args D ca ad A) (hRf : 4 ≤ R.frames) (hRl : 100 ≤ R.locals) {Q : Int → iST → Prop} (hret : ∀ (v : Int) (u : iST) (H : Heap) (locs : List Loc) (ls : Array Slot) (pc : Nat), bz v → Q v u → yW D ca A ad s H locs u → decode cX11_isDefinition pc = .ok (.ireturn, 1) → W p l e R s m args below meth c H locs 0 0 Qf (F0 m pc ls [.int (jI v)])) {a0 a1 : Int} (ra0 : inR a0) (ra1 : inR a1) (hw : yW D ca A ad s H locs u) (hl : lv_has ls 5 [(0, .ref (ad 0 9)), (1, .int (jI a0)), (2, .int (jI a1))]) (h : v_11_isDefinition a0 a1 Q u) : W p l e R s m args below meth c H locs 0 0 Qf (F0 m 0 ls []) := by
  have hx := X.1.1
  have hb := X.1.2.1
  unfold v_11_isDefinition at h
  refine lv_aload_n hx hb dX11_isDefinition_0 rfl (lv_at hl 0 rfl) ?_
  refine yg_11_14 X hw dX11_isDefinition_1 ?_
  refine lv_iload_n hx hb dX11_isDefinition_4 rfl (lv_at hl 1 rfl) ?_
  refine lv_iconst hx hb dX11_isDefinition_5 (v := jI 2) rfl ?_
  refine ycI (n := 2) (e_7_item ra0 (by decide) h) 7 6 (r := (RX7, TX7, 9)) rfl yG_11_173 yD_7_item X hw rfl yGo_7 (Nat.le_trans (Nat.le_of_ble_eq_true rfl) hRf) (Nat.le_trans (Nat.le_of_ble_eq_true rfl) hRl) rfl hl.1 (Nat.le_of_ble_eq_true rfl) rfl dX11_isDefinition_6 (fun v1 u H locs rv1 h hw => ?_)
  refine lv_istore_n hx hb dX11_isDefinition_9 rfl hl (by decide) rfl (fun ls hl => ?_)
  have hl : lv_has ls 5 [(3, .int (jI v1)), (0, .ref (ad 0 9)), (1, .int (jI a0)), (2, .int (jI a1))] := hl
  refine lv_aload_n hx hb dX11_isDefinition_10 rfl (lv_at hl 1 rfl) ?_
  refine yg_11_14 X hw dX11_isDefinition_11 ?_
  refine lv_iload_n hx hb dX11_isDefinition_14 rfl (lv_at hl 0 rfl) ?_
  refine ycI (n := 1) (e_7_lengthOf rv1 h) 7 6 (r := (RX7, TX7, 9)) rfl yG_11_278 yD_7_lengthOf X hw rfl yGo_7 (Nat.le_trans (Nat.le_of_ble_eq_true rfl) hRf) (Nat.le_trans (Nat.le_of_ble_eq_true rfl) hRl) rfl hl.1 (Nat.le_of_ble_eq_true rfl) rfl dX11_isDefinition_15 (fun v2 u H locs rv2 h hw => ?_)
  refine lv_istore hx hb dX11_isDefinition_18 hl (by decide) rfl (fun ls hl => ?_)
  have hl : lv_has ls 5 [(4, .int (jI v2)), (3, .int (jI v1)), (0, .ref (ad 0 9)), (1, .int (jI a0)), (2, .int (jI a1))] := hl
  refine lv_iload hx hb dX11_isDefinition_20 (lv_at hl 0 rfl) ?_
  refine k_if_lt hx hb rv2 dX11_isDefinition_22 (tgt := 43) rfl h (fun h => ?_) (fun h => ?_)
  · refine lv_iconst hx hb dX11_isDefinition_43 (v := jI 0) rfl ?_
    exact hret _ _ _ _ _ _ h.1 h.2 hw dX11_isDefinition_44
  · refine lv_iload hx hb dX11_isDefinition_25 (lv_at hl 0 rfl) ?_
    refine lv_bipush hx hb dX11_isDefinition_27 (v := jI 6) rfl ?_
    refine k_icmp_gt hx hb rv2 (by decide) dX11_isDefinition_29 (tgt := 43) rfl h (fun h => ?_) (fun h => ?_)
    · refine lv_iconst hx hb dX11_isDefinition_43 (v := jI 0) rfl ?_
      exact hret _ _ _ _ _ _ h.1 h.2 hw dX11_isDefinition_44
    · refine lv_aload_n hx hb dX11_isDefinition_32 rfl (lv_at hl 2 rfl) ?_
      refine yg_11_54 X hw dX11_isDefinition_33 ?_
      refine lv_iload_n hx hb dX11_isDefinition_36 rfl (lv_at hl 1 rfl) ?_
      refine ycI (n := 1) (e_10_areDifferentVariables rv1 h) 10 8 (r := (RX10, TX10, 16)) rfl yG_11_304 yD_10_areDifferentVariables X hw rfl yGo_10 (Nat.le_trans (Nat.le_of_ble_eq_true rfl) hRf) (Nat.le_trans (Nat.le_of_ble_eq_true rfl) hRl) rfl hl.1 (Nat.le_of_ble_eq_true rfl) rfl dX11_isDefinition_37 (fun v3 u H locs rv3 h hw => ?_)
      refine k_if_ne hx hb rv3 dX11_isDefinition_40 (tgt := 45) rfl h (fun h => ?_) (fun h => ?_)
      · refine lv_aload_n hx hb dX11_isDefinition_45 rfl (lv_at hl 2 rfl) ?_
        refine yg_11_54 X hw dX11_isDefinition_46 ?_
        refine lv_aload_n hx hb dX11_isDefinition_49 rfl (lv_at hl 2 rfl) ?_
        refine yg_11_115 X hw dX11_isDefinition_50 h (fun v4 rv4 h => ?_)
        refine yp_11_307 X hw rv4 dX11_isDefinition_53 h (fun H locs u hw h => ?_)
        refine lv_aload_n hx hb dX11_isDefinition_56 rfl (lv_at hl 2 rfl) ?_
        refine yg_11_54 X hw dX11_isDefinition_57 ?_
        refine lv_iload hx hb dX11_isDefinition_60 (lv_at hl 0 rfl) ?_
        refine yp_11_310 X hw rv2 dX11_isDefinition_62 h (fun H locs u hw h => ?_)
        refine lv_aload_n hx hb dX11_isDefinition_65 rfl (lv_at hl 2 rfl) ?_
        refine lv_aload_n hx hb dX11_isDefinition_66 rfl (lv_at hl 2 rfl) ?_
        refine yg_11_54 X hw dX11_isDefinition_67 ?_
        refine lv_aload_n hx hb dX11_isDefinition_70 rfl (lv_at hl 2 rfl) ?_
        refine yg_11_14 X hw dX11_isDefinition_71 ?_
        refine lv_iload_n hx hb dX11_isDefinition_74 rfl (lv_at hl 3 rfl) ?_
        refine lv_iconst hx hb dX11_isDefinition_75 (v := jI 3) rfl ?_
        refine ycI (n := 2) (e_7_item ra0 (by decide) h) 7 6 (r := (RX7, TX7, 9)) rfl yG_11_173 yD_7_item X hw rfl yGo_7 (Nat.le_trans (Nat.le_of_ble_eq_true rfl) hRf) (Nat.le_trans (Nat.le_of_ble_eq_true rfl) hRl) rfl hl.1 (Nat.le_of_ble_eq_true rfl) rfl dX11_isDefinition_76 (fun v5 u H locs rv5 h hw => ?_)
        refine lv_iconst hx hb dX11_isDefinition_79 (v := jI 0) rfl ?_
        refine ycI (n := 2) (e_10_rebuilt rv5 (by decide) h) 10 8 (r := (RX10, TX10, 16)) rfl yG_11_301 yD_10_rebuilt X hw rfl yGo_10 (Nat.le_trans (Nat.le_of_ble_eq_true rfl) hRf) (Nat.le_trans (Nat.le_of_ble_eq_true rfl) hRl) rfl hl.1 (Nat.le_of_ble_eq_true rfl) rfl dX11_isDefinition_80 (fun v6 u H locs rv6 h hw => ?_)
        refine yp_11_118 X hw rv6 dX11_isDefinition_83 h (fun H locs u hw h => ?_)
        refine lv_aload_n hx hb dX11_isDefinition_86 rfl (lv_at hl 2 rfl) ?_
        refine yg_11_54 X hw dX11_isDefinition_87 ?_
        refine lv_iconst hx hb dX11_isDefinition_90 (v := jI (-1)) rfl ?_
        refine yp_11_310 X hw (by decide) dX11_isDefinition_91 h (fun H locs u hw h => ?_)
        refine lv_aload_n hx hb dX11_isDefinition_94 rfl (lv_at hl 2 rfl) ?_
        refine lv_iload_n hx hb dX11_isDefinition_95 rfl (lv_at hl 4 rfl) ?_
        refine k_if_eq hx hb ra1 dX11_isDefinition_96 (tgt := 119) rfl h (fun h => ?_) (fun h => ?_)
        · refine lv_iconst hx hb dX11_isDefinition_119 (v := jI (-1)) rfl ?_
          exact f_11_isDefinition_120 X hRf hRl hret ra1 rv1 (by decide) hw (lv_sub hl [2, 4, 1] rfl) h
        · refine lv_aload_n hx hb dX11_isDefinition_99 rfl (lv_at hl 2 rfl) ?_
          refine yg_11_54 X hw dX11_isDefinition_100 ?_
          refine lv_aload_n hx hb dX11_isDefinition_103 rfl (lv_at hl 2 rfl) ?_
          refine yg_11_14 X hw dX11_isDefinition_104 ?_
          refine lv_iload_n hx hb dX11_isDefinition_107 rfl (lv_at hl 3 rfl) ?_
          refine lv_iconst hx hb dX11_isDefinition_108 (v := jI 4) rfl ?_
          refine ycI (n := 2) (e_7_item ra0 (by decide) h) 7 6 (r := (RX7, TX7, 9)) rfl yG_11_173 yD_7_item X hw rfl yGo_7 (Nat.le_trans (Nat.le_of_ble_eq_true rfl) hRf) (Nat.le_trans (Nat.le_of_ble_eq_true rfl) hRl) rfl hl.1 (Nat.le_of_ble_eq_true rfl) rfl dX11_isDefinition_109 (fun v19 u H locs rv19 h hw => ?_)
          refine lv_iconst hx hb dX11_isDefinition_112 (v := jI 0) rfl ?_
          refine ycI (n := 2) (e_10_rebuilt rv19 (by decide) h) 10 8 (r := (RX10, TX10, 16)) rfl yG_11_301 yD_10_rebuilt X hw rfl yGo_10 (Nat.le_trans (Nat.le_of_ble_eq_true rfl) hRf) (Nat.le_trans (Nat.le_of_ble_eq_true rfl) hRl) rfl hl.1 (Nat.le_of_ble_eq_true rfl) rfl dX11_isDefinition_113 (fun v20 u H locs rv20 h hw => ?_)
          refine lv_goto hx hb dX11_isDefinition_116 (tgt := 120) rfl ?_
          exact f_11_isDefinition_120 X hRf hRl hret ra1 rv1 rv20 hw (lv_sub hl [2, 4, 1] rfl) h
      · refine lv_iconst hx hb dX11_isDefinition_43 (v := jI 0) rfl ?_
        exact hret _ _ _ _ _ _ h.1 h.2 hw dX11_isDefinition_44

end
theorem e_11_isDefinition {l : Launch} {a0 : Int} {a1 : Int} (ra0 : inR a0) (ra1 : inR a1) {Q : Int → iST → Prop} {u : iST} (h : v_11_isDefinition a0 a1 Q u) : yMI l yX11_isDefinition (.code yX11_isDefinition cX11_isDefinition 5 (some .boolean) :: wsN) { frames := 4, cells := 0, slots := 0, locals := 100 } (fun ad => [.ref (ad 0 9), .int (jI a0), .int (jI a1)]) Q u := yMZ_of (own := RX11) rfl (by decide +kernel) (fun _ => Nat.le_of_ble_eq_true rfl) (fun X hRf hRl hret hw hl => f_11_isDefinition_s X hRf hRl hret ra0 ra1 hw hl h)
