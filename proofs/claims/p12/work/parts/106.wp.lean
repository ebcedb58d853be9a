/-! evaluated -/
theorem dX12_evaluated_0 : decode cX12_evaluated 0 = .ok (.aload_n 0, 1) := by decide +kernel
theorem dX12_evaluated_1 : decode cX12_evaluated 1 = .ok (.iconst 0, 1) := by decide +kernel
theorem dX12_evaluated_2 : decode cX12_evaluated 2 = .ok (.putfield 573, 3) := by decide +kernel
theorem dX12_evaluated_5 : decode cX12_evaluated 5 = .ok (.aload_n 0, 1) := by decide +kernel
theorem dX12_evaluated_6 : decode cX12_evaluated 6 = .ok (.iconst 0, 1) := by decide +kernel
theorem dX12_evaluated_7 : decode cX12_evaluated 7 = .ok (.putfield 582, 3) := by decide +kernel
theorem dX12_evaluated_10 : decode cX12_evaluated 10 = .ok (.aload_n 0, 1) := by decide +kernel
theorem dX12_evaluated_11 : decode cX12_evaluated 11 = .ok (.bipush 100, 2) := by decide +kernel
theorem dX12_evaluated_13 : decode cX12_evaluated 13 = .ok (.putfield 579, 3) := by decide +kernel
theorem dX12_evaluated_16 : decode cX12_evaluated 16 = .ok (.aload_n 0, 1) := by decide +kernel
theorem dX12_evaluated_17 : decode cX12_evaluated 17 = .ok (.iconst 0, 1) := by decide +kernel
theorem dX12_evaluated_18 : decode cX12_evaluated 18 = .ok (.putfield 576, 3) := by decide +kernel
theorem dX12_evaluated_21 : decode cX12_evaluated 21 = .ok (.aload_n 0, 1) := by decide +kernel
theorem dX12_evaluated_22 : decode cX12_evaluated 22 = .ok (.iload_n 1, 1) := by decide +kernel
theorem dX12_evaluated_23 : decode cX12_evaluated 23 = .ok (.iconst 0, 1) := by decide +kernel
theorem dX12_evaluated_24 : decode cX12_evaluated 24 = .ok (.iconst 0, 1) := by decide +kernel
theorem dX12_evaluated_25 : decode cX12_evaluated 25 = .ok (.iload_n 2, 1) := by decide +kernel
theorem dX12_evaluated_26 : decode cX12_evaluated 26 = .ok (.invokevirtual 595, 3) := by decide +kernel
theorem dX12_evaluated_29 : decode cX12_evaluated 29 = .ok (.aload_n 0, 1) := by decide +kernel
theorem dX12_evaluated_30 : decode cX12_evaluated 30 = .ok (.getfield 576, 3) := by decide +kernel
theorem dX12_evaluated_33 : decode cX12_evaluated 33 = .ok (.ifCond .ne 40, 3) := by decide +kernel
theorem dX12_evaluated_36 : decode cX12_evaluated 36 = .ok (.aload_n 0, 1) := by decide +kernel
theorem dX12_evaluated_37 : decode cX12_evaluated 37 = .ok (.getfield 564, 3) := by decide +kernel
theorem dX12_evaluated_40 : decode cX12_evaluated 40 = .ok (.ifCond .eq 10, 3) := by decide +kernel
theorem dX12_evaluated_43 : decode cX12_evaluated 43 = .ok (.aload_n 0, 1) := by decide +kernel
theorem dX12_evaluated_44 : decode cX12_evaluated 44 = .ok (.getfield 573, 3) := by decide +kernel
theorem dX12_evaluated_47 : decode cX12_evaluated 47 = .ok (.ifCond .eq 26, 3) := by decide +kernel
theorem dX12_evaluated_50 : decode cX12_evaluated 50 = .ok (.aload_n 0, 1) := by decide +kernel
theorem dX12_evaluated_51 : decode cX12_evaluated 51 = .ok (.getfield 564, 3) := by decide +kernel
theorem dX12_evaluated_54 : decode cX12_evaluated 54 = .ok (.ifCond .eq 11, 3) := by decide +kernel
theorem dX12_evaluated_57 : decode cX12_evaluated 57 = .ok (.aload_n 0, 1) := by decide +kernel
theorem dX12_evaluated_58 : decode cX12_evaluated 58 = .ok (.iload_n 2, 1) := by decide +kernel
theorem dX12_evaluated_59 : decode cX12_evaluated 59 = .ok (.invokevirtual 602, 3) := by decide +kernel
theorem dX12_evaluated_62 : decode cX12_evaluated 62 = .ok (.goto (-33), 3) := by decide +kernel
theorem dX12_evaluated_65 : decode cX12_evaluated 65 = .ok (.aload_n 0, 1) := by decide +kernel
theorem dX12_evaluated_66 : decode cX12_evaluated 66 = .ok (.iload_n 2, 1) := by decide +kernel
theorem dX12_evaluated_67 : decode cX12_evaluated 67 = .ok (.invokevirtual 606, 3) := by decide +kernel
theorem dX12_evaluated_70 : decode cX12_evaluated 70 = .ok (.goto (-41), 3) := by decide +kernel
theorem dX12_evaluated_73 : decode cX12_evaluated 73 = .ok (.aload_n 0, 1) := by decide +kernel
theorem dX12_evaluated_74 : decode cX12_evaluated 74 = .ok (.getfield 576, 3) := by decide +kernel
theorem dX12_evaluated_77 : decode cX12_evaluated 77 = .ok (.ifCond .ne 10, 3) := by decide +kernel
theorem dX12_evaluated_80 : decode cX12_evaluated 80 = .ok (.aload_n 0, 1) := by decide +kernel
theorem dX12_evaluated_81 : decode cX12_evaluated 81 = .ok (.getfield 570, 3) := by decide +kernel
theorem dX12_evaluated_84 : decode cX12_evaluated 84 = .ok (.goto 4, 3) := by decide +kernel
theorem dX12_evaluated_87 : decode cX12_evaluated 87 = .ok (.iconst (-1), 1) := by decide +kernel
theorem dX12_evaluated_88 : decode cX12_evaluated 88 = .ok (.ireturn, 1) := by decide +kernel

section
variable {p : Program} {l : Launch} {e : Env} {R : Room} {s : State} {m : MethodId} {args : Array Value} {below : List Frame} {meth : Method} {c : Code} {H : Heap} {locs : List Loc} {Qf : State → Prop}
variable {ls : Array Slot} {D : va_G} {ca : Nat → ClassId} {A : Nat → Prop} {h0 : Nat} {ad : Nat → Nat} {H0 : Heap} {u : iST}
def w_evaluated_73 (Q : Int → iST → Prop) (u : iST) : Prop :=
  rd (u.1 89) (fun v3 => 
  br (v3 ≠ 0) (
    Q (-1) u) (
    rd (u.1 91) (fun v4 => 
    Q v4 u)))
set_option maxRecDepth 20000 in
set_option maxHeartbeats 4000000 in
theorem b_evaluated_73 (X : kX p m c cX12_evaluated 3 s args D ca) (hRf : 5 ≤ R.frames) (hRl : 111 ≤ R.locals) {Q : Int → iST → Prop} (hret : ∀ (v : Int) (u : iST) (H : Heap) (locs : List Loc) (ls : Array Slot) (pc : Nat), inR v → Q v u → kW D ca A h0 ad H0 H locs u → decode cX12_evaluated pc = .ok (.ireturn, 1) → W p l e R s m args below meth c H locs 0 0 Qf (F0 m pc ls [.int (jI v)])) (hw : kW D ca A h0 ad H0 H locs u) (hl : lv_has ls 3 [(0, .ref h0)]) (h : w_evaluated_73 Q u) : W p l e R s m args below meth c H locs 0 0 Qf (F0 m 73 ls []) := by
  have hx := X.1.1
  have hb := X.1.2.1
  unfold w_evaluated_73 at h
  refine lv_aload_n hx hb dX12_evaluated_73 rfl (lv_at hl 0 rfl) ?_
  refine gS 89 576 (by decide) L_89 (fun _ _ => mF_89) rfl X hw dX12_evaluated_74 h (fun v3 rv3 h => ?_)
  refine k_if_ne hx hb rv3 dX12_evaluated_77 (tgt := 87) rfl h (fun h => ?_) (fun h => ?_)
  · refine lv_iconst hx hb dX12_evaluated_87 (v := jI (-1)) rfl ?_
    exact hret _ _ _ _ _ _ (by decide) h hw dX12_evaluated_88
  · refine lv_aload_n hx hb dX12_evaluated_80 rfl (lv_at hl 0 rfl) ?_
    refine gS 91 570 (by decide) L_91 (fun _ _ => mF_91) rfl X hw dX12_evaluated_81 h (fun v4 rv4 h => ?_)
    refine lv_goto hx hb dX12_evaluated_84 (tgt := 88) rfl ?_
    exact hret _ _ _ _ _ _ rv4 h hw dX12_evaluated_88

def w_evaluated_50 (R29 : Int → iST → Prop) (Q : Int → iST → Prop) (x2 : Int) (u : iST) : Prop :=
  rz (u.1 90) (fun v6 => 
  br (v6 = 0) (
    w_goOn x2 (fun u => 
    R29 x2 u) u) (
    w_takeValue x2 (fun u => 
    R29 x2 u) u))
set_option maxRecDepth 20000 in
set_option maxHeartbeats 4000000 in
theorem b_evaluated_50 (X : kX p m c cX12_evaluated 3 s args D ca) (hRf : 5 ≤ R.frames) (hRl : 111 ≤ R.locals) {Q : Int → iST → Prop} (hret : ∀ (v : Int) (u : iST) (H : Heap) (locs : List Loc) (ls : Array Slot) (pc : Nat), inR v → Q v u → kW D ca A h0 ad H0 H locs u → decode cX12_evaluated pc = .ok (.ireturn, 1) → W p l e R s m args below meth c H locs 0 0 Qf (F0 m pc ls [.int (jI v)])) {R29 : Int → iST → Prop} (hR29 : ∀ (x2 : Int) (u : iST) (H : Heap) (locs : List Loc) (ls : Array Slot), inR x2 → kW D ca A h0 ad H0 H locs u → lv_has ls 3 [(0, .ref h0), (2, .int (jI x2))] → R29 x2 u → W p l e R s m args below meth c H locs 0 0 Qf (F0 m 29 ls [])) {x2 : Int} (rx2 : inR x2) (hw : kW D ca A h0 ad H0 H locs u) (hl : lv_has ls 3 [(0, .ref h0), (2, .int (jI x2))]) (h : w_evaluated_50 R29 Q x2 u) : W p l e R s m args below meth c H locs 0 0 Qf (F0 m 50 ls []) := by
  have hx := X.1.1
  have hb := X.1.2.1
  unfold w_evaluated_50 at h
  refine lv_aload_n hx hb dX12_evaluated_50 rfl (lv_at hl 0 rfl) ?_
  refine gZ 90 564 (by decide) L_90 (fun _ _ => mF_90) rfl (by decide) X hw dX12_evaluated_51 h (fun v6 rv6 h => ?_)
  refine k_if_eq hx hb (bz_in rv6) dX12_evaluated_54 (tgt := 65) rfl h (fun h => ?_) (fun h => ?_)
  · refine lv_aload_n hx hb dX12_evaluated_65 rfl (lv_at hl 0 rfl) ?_
    refine lv_iload_n hx hb dX12_evaluated_66 rfl (lv_at hl 1 rfl) ?_
    refine kcV (n := 1) (c_goOn rx2 h) G_goOn E_goOn X hw (Nat.le_trans (Nat.le_of_ble_eq_true rfl) hRf) (Nat.le_trans (Nat.le_of_ble_eq_true rfl) hRl) rfl hl.1 (Nat.le_of_ble_eq_true rfl) rfl dX12_evaluated_67 (fun u H locs h hw => ?_)
    refine lv_goto hx hb dX12_evaluated_70 (tgt := 29) rfl ?_
    exact hR29 _ _ H locs ls rx2 hw hl h
  · refine lv_aload_n hx hb dX12_evaluated_57 rfl (lv_at hl 0 rfl) ?_
    refine lv_iload_n hx hb dX12_evaluated_58 rfl (lv_at hl 1 rfl) ?_
    refine kcV (n := 1) (c_takeValue rx2 h) G_takeValue E_takeValue X hw (Nat.le_trans (Nat.le_of_ble_eq_true rfl) hRf) (Nat.le_trans (Nat.le_of_ble_eq_true rfl) hRl) rfl hl.1 (Nat.le_of_ble_eq_true rfl) rfl dX12_evaluated_59 (fun u H locs h hw => ?_)
    refine lv_goto hx hb dX12_evaluated_62 (tgt := 29) rfl ?_
    exact hR29 _ _ H locs ls rx2 hw hl h

def w_evaluated_29b (R29 : Int → iST → Prop) (Q : Int → iST → Prop) (x2 : Int) (u : iST) : Prop :=
  rd (u.1 89) (fun v2 => 
  br (v2 ≠ 0) (
    w_evaluated_73 Q u) (
    rz (u.1 90) (fun v5 => 
    br (v5 = 0) (
      w_evaluated_50 R29 Q x2 u) (
      rd (u.1 85) (fun v9 => 
      br (v9 = 0) (
        w_evaluated_73 Q u) (
        w_evaluated_50 R29 Q x2 u))))))
def w_evaluated_29 (Q : Int → iST → Prop) (x2 : Int) (u : iST) : Prop := ∀ R29 : Int → iST → Prop, (∀ (x2 : Int) (u : iST), w_evaluated_29b R29 Q x2 u → R29 x2 u) → R29 x2 u
set_option maxRecDepth 20000 in
set_option maxHeartbeats 4000000 in
theorem b_evaluated_29 (X : kX p m c cX12_evaluated 3 s args D ca) (hRf : 5 ≤ R.frames) (hRl : 111 ≤ R.locals) {Q : Int → iST → Prop} (hret : ∀ (v : Int) (u : iST) (H : Heap) (locs : List Loc) (ls : Array Slot) (pc : Nat), inR v → Q v u → kW D ca A h0 ad H0 H locs u → decode cX12_evaluated pc = .ok (.ireturn, 1) → W p l e R s m args below meth c H locs 0 0 Qf (F0 m pc ls [.int (jI v)])) {x2 : Int} (rx2 : inR x2) (hw : kW D ca A h0 ad H0 H locs u) (hl : lv_has ls 3 [(0, .ref h0), (2, .int (jI x2))]) (h : w_evaluated_29 Q x2 u) : W p l e R s m args below meth c H locs 0 0 Qf (F0 m 29 ls []) := by
  refine h (fun x2 u => ∀ (H : Heap) (locs : List Loc) (ls : Array Slot), inR x2 → kW D ca A h0 ad H0 H locs u → lv_has ls 3 [(0, .ref h0), (2, .int (jI x2))] → W p l e R s m args below meth c H locs 0 0 Qf (F0 m 29 ls [])) ?_ H locs ls rx2 hw hl
  clear h hl hw rx2
  intro x2 u h H locs ls rx2 hw hl
  have hR29 : ∀ (x2 : Int) (u : iST) (H : Heap) (locs : List Loc) (ls : Array Slot), inR x2 → kW D ca A h0 ad H0 H locs u → lv_has ls 3 [(0, .ref h0), (2, .int (jI x2))] → (fun (x2 : Int) u => ∀ (H : Heap) (locs : List Loc) (ls : Array Slot), inR x2 → kW D ca A h0 ad H0 H locs u → lv_has ls 3 [(0, .ref h0), (2, .int (jI x2))] → W p l e R s m args below meth c H locs 0 0 Qf (F0 m 29 ls [])) x2 u → W p l e R s m args below meth c H locs 0 0 Qf (F0 m 29 ls []) := fun x2 u H locs ls rx2 hw hl h => h H locs ls rx2 hw hl
  have hx := X.1.1
  have hb := X.1.2.1
  unfold w_evaluated_29b at h
  refine lv_aload_n hx hb dX12_evaluated_29 rfl (lv_at hl 0 rfl) ?_
  refine gS 89 576 (by decide) L_89 (fun _ _ => mF_89) rfl X hw dX12_evaluated_30 h (fun v2 rv2 h => ?_)
  refine k_if_ne hx hb rv2 dX12_evaluated_33 (tgt := 73) rfl h (fun h => ?_) (fun h => ?_)
  · exact b_evaluated_73 X hRf hRl hret hw (lv_sub hl [0] rfl) h
  · refine lv_aload_n hx hb dX12_evaluated_36 rfl (lv_at hl 0 rfl) ?_
    refine gZ 90 564 (by decide) L_90 (fun _ _ => mF_90) rfl (by decide) X hw dX12_evaluated_37 h (fun v5 rv5 h => ?_)
    refine k_if_eq hx hb (bz_in rv5) dX12_evaluated_40 (tgt := 50) rfl h (fun h => ?_) (fun h => ?_)
    · exact b_evaluated_50 X hRf hRl hret hR29 rx2 hw hl h
    · refine lv_aload_n hx hb dX12_evaluated_43 rfl (lv_at hl 0 rfl) ?_
      refine gS 85 573 (by decide) L_85 (fun _ _ => mF_85) rfl X hw dX12_evaluated_44 h (fun v9 rv9 h => ?_)
      refine k_if_eq hx hb rv9 dX12_evaluated_47 (tgt := 73) rfl h (fun h => ?_) (fun h => ?_)
      · exact b_evaluated_73 X hRf hRl hret hw (lv_sub hl [0] rfl) h
      · exact b_evaluated_50 X hRf hRl hret hR29 rx2 hw hl h

def w_evaluated (a0 : Int) (a1 : Int) (Q : Int → iST → Prop) (u : iST) : Prop :=
  sw (iI u 85 0) (fun u => 
  sw (iI u 87 0) (fun u => 
  sw (iI u 88 100) (fun u => 
  sw (iI u 89 0) (fun u => 
  w_beginEval a0 0 0 a1 (fun u => 
  w_evaluated_29 Q a1 u) u))))
set_option maxRecDepth 20000 in
set_option maxHeartbeats 4000000 in
theorem b_evaluated_s (X : kX p m c cX12_evaluated 3 s args D ca) (hRf : 5 ≤ R.frames) (hRl : 111 ≤ R.locals) {Q : Int → iST → Prop} (hret : ∀ (v : Int) (u : iST) (H : Heap) (locs : List Loc) (ls : Array Slot) (pc : Nat), inR v → Q v u → kW D ca A h0 ad H0 H locs u → decode cX12_evaluated pc = .ok (.ireturn, 1) → W p l e R s m args below meth c H locs 0 0 Qf (F0 m pc ls [.int (jI v)])) {a0 a1 : Int} (ra0 : inR a0) (ra1 : inR a1) (hw : kW D ca A h0 ad H0 H locs u) (hl : lv_has ls 3 [(0, .ref h0), (1, .int (jI a0)), (2, .int (jI a1))]) (h : w_evaluated a0 a1 Q u) : W p l e R s m args below meth c H locs 0 0 Qf (F0 m 0 ls []) := by
  have hx := X.1.1
  have hb := X.1.2.1
  unfold w_evaluated at h
  refine lv_aload_n hx hb dX12_evaluated_0 rfl (lv_at hl 0 rfl) ?_
  refine lv_iconst hx hb dX12_evaluated_1 (v := jI 0) rfl ?_
  refine pS 85 573 (by decide) L_85 rfl rfl rfl (fun _ _ _ _ _ => mSI_85) (by decide) X hw (by decide) dX12_evaluated_2 h (fun H locs u hw h => ?_)
  refine lv_aload_n hx hb dX12_evaluated_5 rfl (lv_at hl 0 rfl) ?_
  refine lv_iconst hx hb dX12_evaluated_6 (v := jI 0) rfl ?_
  refine pS 87 582 (by decide) L_87 rfl rfl rfl (fun _ _ _ _ _ => mSI_87) (by decide) X hw (by decide) dX12_evaluated_7 h (fun H locs u hw h => ?_)
  refine lv_aload_n hx hb dX12_evaluated_10 rfl (lv_at hl 0 rfl) ?_
  refine lv_bipush hx hb dX12_evaluated_11 (v := jI 100) rfl ?_
  refine pS 88 579 (by decide) L_88 rfl rfl rfl (fun _ _ _ _ _ => mSI_88) (by decide) X hw (by decide) dX12_evaluated_13 h (fun H locs u hw h => ?_)
  refine lv_aload_n hx hb dX12_evaluated_16 rfl (lv_at hl 0 rfl) ?_
  refine lv_iconst hx hb dX12_evaluated_17 (v := jI 0) rfl ?_
  refine pS 89 576 (by decide) L_89 rfl rfl rfl (fun _ _ _ _ _ => mSI_89) (by decide) X hw (by decide) dX12_evaluated_18 h (fun H locs u hw h => ?_)
  refine lv_aload_n hx hb dX12_evaluated_21 rfl (lv_at hl 0 rfl) ?_
  refine lv_iload_n hx hb dX12_evaluated_22 rfl (lv_at hl 1 rfl) ?_
  refine lv_iconst hx hb dX12_evaluated_23 (v := jI 0) rfl ?_
  refine lv_iconst hx hb dX12_evaluated_24 (v := jI 0) rfl ?_
  refine lv_iload_n hx hb dX12_evaluated_25 rfl (lv_at hl 2 rfl) ?_
  refine kcV (n := 4) (c_beginEval ra0 (by decide) (by decide) ra1 h) G_beginEval E_beginEval X hw (Nat.le_trans (Nat.le_of_ble_eq_true rfl) hRf) (Nat.le_trans (Nat.le_of_ble_eq_true rfl) hRl) rfl hl.1 (Nat.le_of_ble_eq_true rfl) rfl dX12_evaluated_26 (fun u H locs h hw => ?_)
  exact b_evaluated_29 X hRf hRl hret ra1 hw (lv_sub hl [0, 2] rfl) h

end
theorem c_evaluated {l : Launch} {a0 : Int} {a1 : Int} (ra0 : inR a0) (ra1 : inR a1) {Q : Int → iST → Prop} {u : iST} (h : w_evaluated a0 a1 Q u) : kMI l yX12_evaluated (.code yX12_evaluated cX12_evaluated 3 (some .int) :: wsM) { frames := 5, cells := 0, slots := 0, locals := 111 } [.int (jI a0), .int (jI a1)] Q u := kMI_of rfl (fun _ => Nat.le_of_ble_eq_true rfl) (fun X hRf hRl hret hw hl => b_evaluated_s X hRf hRl hret ra0 ra1 hw hl h)

/-! beginJob -/
theorem dX12_beginJob_0 : decode cX12_beginJob 0 = .ok (.aload_n 0, 1) := by decide +kernel
theorem dX12_beginJob_1 : decode cX12_beginJob 1 = .ok (.iconst 0, 1) := by decide +kernel
theorem dX12_beginJob_2 : decode cX12_beginJob 2 = .ok (.putfield 609, 3) := by decide +kernel
theorem dX12_beginJob_5 : decode cX12_beginJob 5 = .ok (.aload_n 0, 1) := by decide +kernel
theorem dX12_beginJob_6 : decode cX12_beginJob 6 = .ok (.getfield 480, 3) := by decide +kernel
theorem dX12_beginJob_9 : decode cX12_beginJob 9 = .ok (.ifCond .eq 4, 3) := by decide +kernel
theorem dX12_beginJob_12 : decode cX12_beginJob 12 = .ok (.return_, 1) := by decide +kernel
theorem dX12_beginJob_13 : decode cX12_beginJob 13 = .ok (.aload_n 0, 1) := by decide +kernel
theorem dX12_beginJob_14 : decode cX12_beginJob 14 = .ok (.getfield 612, 3) := by decide +kernel
theorem dX12_beginJob_17 : decode cX12_beginJob 17 = .ok (.bipush 60, 2) := by decide +kernel
theorem dX12_beginJob_19 : decode cX12_beginJob 19 = .ok (.if_icmp .ne 9, 3) := by decide +kernel
theorem dX12_beginJob_22 : decode cX12_beginJob 22 = .ok (.aload_n 0, 1) := by decide +kernel
theorem dX12_beginJob_23 : decode cX12_beginJob 23 = .ok (.iconst 2, 1) := by decide +kernel
theorem dX12_beginJob_24 : decode cX12_beginJob 24 = .ok (.invokevirtual 517, 3) := by decide +kernel
theorem dX12_beginJob_27 : decode cX12_beginJob 27 = .ok (.return_, 1) := by decide +kernel
theorem dX12_beginJob_28 : decode cX12_beginJob 28 = .ok (.aload_n 0, 1) := by decide +kernel
theorem dX12_beginJob_29 : decode cX12_beginJob 29 = .ok (.invokevirtual 615, 3) := by decide +kernel
theorem dX12_beginJob_32 : decode cX12_beginJob 32 = .ok (.ifCond .ne 4, 3) := by decide +kernel
theorem dX12_beginJob_35 : decode cX12_beginJob 35 = .ok (.return_, 1) := by decide +kernel
theorem dX12_beginJob_36 : decode cX12_beginJob 36 = .ok (.aload_n 0, 1) := by decide +kernel
theorem dX12_beginJob_37 : decode cX12_beginJob 37 = .ok (.getfield 190, 3) := by decide +kernel
theorem dX12_beginJob_40 : decode cX12_beginJob 40 = .ok (.aload_n 0, 1) := by decide +kernel
theorem dX12_beginJob_41 : decode cX12_beginJob 41 = .ok (.getfield 612, 3) := by decide +kernel
theorem dX12_beginJob_44 : decode cX12_beginJob 44 = .ok (.iload_n 1, 1) := by decide +kernel
theorem dX12_beginJob_45 : decode cX12_beginJob 45 = .ok (.iastore, 1) := by decide +kernel
theorem dX12_beginJob_46 : decode cX12_beginJob 46 = .ok (.aload_n 0, 1) := by decide +kernel
theorem dX12_beginJob_47 : decode cX12_beginJob 47 = .ok (.getfield 193, 3) := by decide +kernel
theorem dX12_beginJob_50 : decode cX12_beginJob 50 = .ok (.aload_n 0, 1) := by decide +kernel
theorem dX12_beginJob_51 : decode cX12_beginJob 51 = .ok (.getfield 612, 3) := by decide +kernel
theorem dX12_beginJob_54 : decode cX12_beginJob 54 = .ok (.iload_n 2, 1) := by decide +kernel
theorem dX12_beginJob_55 : decode cX12_beginJob 55 = .ok (.bastore, 1) := by decide +kernel
theorem dX12_beginJob_56 : decode cX12_beginJob 56 = .ok (.aload_n 0, 1) := by decide +kernel
theorem dX12_beginJob_57 : decode cX12_beginJob 57 = .ok (.getfield 196, 3) := by decide +kernel
theorem dX12_beginJob_60 : decode cX12_beginJob 60 = .ok (.aload_n 0, 1) := by decide +kernel
theorem dX12_beginJob_61 : decode cX12_beginJob 61 = .ok (.getfield 612, 3) := by decide +kernel
theorem dX12_beginJob_64 : decode cX12_beginJob 64 = .ok (.iconst 0, 1) := by decide +kernel
theorem dX12_beginJob_65 : decode cX12_beginJob 65 = .ok (.iastore, 1) := by decide +kernel
theorem dX12_beginJob_66 : decode cX12_beginJob 66 = .ok (.aload_n 0, 1) := by decide +kernel
theorem dX12_beginJob_67 : decode cX12_beginJob 67 = .ok (.dup, 1) := by decide +kernel
theorem dX12_beginJob_68 : decode cX12_beginJob 68 = .ok (.getfield 612, 3) := by decide +kernel
theorem dX12_beginJob_71 : decode cX12_beginJob 71 = .ok (.iconst 1, 1) := by decide +kernel
theorem dX12_beginJob_72 : decode cX12_beginJob 72 = .ok (.iadd, 1) := by decide +kernel
theorem dX12_beginJob_73 : decode cX12_beginJob 73 = .ok (.putfield 612, 3) := by decide +kernel
theorem dX12_beginJob_76 : decode cX12_beginJob 76 = .ok (.return_, 1) := by decide +kernel

section
variable {p : Program} {l : Launch} {e : Env} {R : Room} {s : State} {m : MethodId} {args : Array Value} {below : List Frame} {meth : Method} {c : Code} {H : Heap} {locs : List Loc} {Qf : State → Prop}
variable {ls : Array Slot} {D : va_G} {ca : Nat → ClassId} {A : Nat → Prop} {h0 : Nat} {ad : Nat → Nat} {H0 : Heap} {u : iST}
def w_beginJob (a0 : Int) (a1 : Int) (Q : iST → Prop) (u : iST) : Prop :=
  zt 0 (sw (iI u 111 0) (fun u => 
  rd (u.1 61) (fun v1 => 
  br (v1 = 0) (
    rd (u.1 102) (fun v2 => 
    br (v2 ≠ 60) (
      w_isStep (fun v3 u => 
      br (v3 ≠ 0) (
        rd (u.1 102) (fun v4 => 
        bd v4 60 (sw (iA u 92 v4 a0) (fun u => 
        rd (u.1 102) (fun v5 => 
        zt a1 (bd v5 60 (sw (iA u 93 v5 a1) (fun u => 
        rd (u.1 102) (fun v6 => 
        bd v6 60 (sw (iA u 94 v6 0) (fun u => 
        rd (u.1 102) (fun v7 => 
        ov (v7 + 1) (
        sw (iI u 102 (v7 + 1)) (fun u => 
        Q u)))))))))))))) (
        Q u)) u) (
      w_fail 2 (fun u => 
      Q u) u))) (
    Q u))))
set_option maxRecDepth 20000 in
set_option maxHeartbeats 4000000 in
theorem b_beginJob_s (X : kX p m c cX12_beginJob 3 s args D ca) (hRf : 2 ≤ R.frames) (hRl : 41 ≤ R.locals) {Q : iST → Prop} (hret : ∀ (u : iST) (H : Heap) (locs : List Loc) (ls : Array Slot) (pc : Nat), Q u → kW D ca A h0 ad H0 H locs u → decode cX12_beginJob pc = .ok (.return_, 1) → W p l e R s m args below meth c H locs 0 0 Qf (F0 m pc ls [])) {a0 a1 : Int} (ra0 : inR a0) (ra1 : inR a1) (hw : kW D ca A h0 ad H0 H locs u) (hl : lv_has ls 3 [(0, .ref h0), (1, .int (jI a0)), (2, .int (jI a1))]) (h : w_beginJob a0 a1 Q u) : W p l e R s m args below meth c H locs 0 0 Qf (F0 m 0 ls []) := by
  have hx := X.1.1
  have hb := X.1.2.1
  unfold w_beginJob at h
  refine lv_aload_n hx hb dX12_beginJob_0 rfl (lv_at hl 0 rfl) ?_
  refine lv_iconst hx hb dX12_beginJob_1 (v := jI 0) rfl ?_
  refine pZ 111 609 (by decide) L_111 rfl rfl rfl (fun _ _ _ _ _ => mSI_111) X hw dX12_beginJob_2 h (fun H locs u hw h => ?_)
  refine lv_aload_n hx hb dX12_beginJob_5 rfl (lv_at hl 0 rfl) ?_
  refine gS 61 480 (by decide) L_61 (fun _ _ => mF_61) rfl X hw dX12_beginJob_6 h (fun v1 rv1 h => ?_)
  refine k_if_eq hx hb rv1 dX12_beginJob_9 (tgt := 13) rfl h (fun h => ?_) (fun h => ?_)
  · refine lv_aload_n hx hb dX12_beginJob_13 rfl (lv_at hl 0 rfl) ?_
    refine gS 102 612 (by decide) L_102 (fun _ _ => mF_102) rfl X hw dX12_beginJob_14 h (fun v2 rv2 h => ?_)
    refine lv_bipush hx hb dX12_beginJob_17 (v := jI 60) rfl ?_
    refine k_icmp_ne hx hb rv2 (by decide) dX12_beginJob_19 (tgt := 28) rfl h (fun h => ?_) (fun h => ?_)
    · refine lv_aload_n hx hb dX12_beginJob_28 rfl (lv_at hl 0 rfl) ?_
      refine kcI (n := 0) (c_isStep h) G_isStep E_isStep X hw (Nat.le_trans (Nat.le_of_ble_eq_true rfl) hRf) (Nat.le_trans (Nat.le_of_ble_eq_true rfl) hRl) rfl hl.1 (Nat.le_of_ble_eq_true rfl) rfl dX12_beginJob_29 (fun v3 u H locs rv3 h hw => ?_)
      refine k_if_ne hx hb rv3 dX12_beginJob_32 (tgt := 36) rfl h (fun h => ?_) (fun h => ?_)
      · refine lv_aload_n hx hb dX12_beginJob_36 rfl (lv_at hl 0 rfl) ?_
        refine gA 92 190 (by decide) L_92 (fun _ _ => mF_92) rfl X hw dX12_beginJob_37 ?_
        refine lv_aload_n hx hb dX12_beginJob_40 rfl (lv_at hl 0 rfl) ?_
        refine gS 102 612 (by decide) L_102 (fun _ _ => mF_102) rfl X hw dX12_beginJob_41 h (fun v4 rv4 h => ?_)
        refine lv_iload_n hx hb dX12_beginJob_44 rfl (lv_at hl 1 rfl) ?_
        refine aS 92 56 55 60 (fun _ _ _ _ => mG_92) (fun _ => rfl) (fun _ _ _ _ _ _ => mSA_92) (by decide) X hw rv4 ra0 dX12_beginJob_45 rfl h (fun H locs u hw h => ?_)
        refine lv_aload_n hx hb dX12_beginJob_46 rfl (lv_at hl 0 rfl) ?_
        refine gA 93 193 (by decide) L_93 (fun _ _ => mF_93) rfl X hw dX12_beginJob_47 ?_
        refine lv_aload_n hx hb dX12_beginJob_50 rfl (lv_at hl 0 rfl) ?_
        refine gS 102 612 (by decide) L_102 (fun _ _ => mF_102) rfl X hw dX12_beginJob_51 h (fun v5 rv5 h => ?_)
        refine lv_iload_n hx hb dX12_beginJob_54 rfl (lv_at hl 2 rfl) ?_
        refine aY 93 57 56 60 (fun _ _ _ _ => mG_93) (fun _ => rfl) (fun _ _ _ _ _ _ => mSA_93) X hw rv5 dX12_beginJob_55 rfl h (fun H locs u hw h => ?_)
        refine lv_aload_n hx hb dX12_beginJob_56 rfl (lv_at hl 0 rfl) ?_
        refine gA 94 196 (by decide) L_94 (fun _ _ => mF_94) rfl X hw dX12_beginJob_57 ?_
        refine lv_aload_n hx hb dX12_beginJob_60 rfl (lv_at hl 0 rfl) ?_
        refine gS 102 612 (by decide) L_102 (fun _ _ => mF_102) rfl X hw dX12_beginJob_61 h (fun v6 rv6 h => ?_)
        refine lv_iconst hx hb dX12_beginJob_64 (v := jI 0) rfl ?_
        refine aS 94 58 57 60 (fun _ _ _ _ => mG_94) (fun _ => rfl) (fun _ _ _ _ _ _ => mSA_94) (by decide) X hw rv6 (by decide) dX12_beginJob_65 rfl h (fun H locs u hw h => ?_)
        refine lv_aload_n hx hb dX12_beginJob_66 rfl (lv_at hl 0 rfl) ?_
        refine lv_dup hx hb dX12_beginJob_67 rfl ?_
        refine gS 102 612 (by decide) L_102 (fun _ _ => mF_102) rfl X hw dX12_beginJob_68 h (fun v7 rv7 h => ?_)
        refine lv_iconst hx hb dX12_beginJob_71 (v := jI 1) rfl ?_
        refine k_iadd hx hb dX12_beginJob_72 h (fun r8 h => ?_)
        refine pS 102 612 (by decide) L_102 rfl rfl rfl (fun _ _ _ _ _ => mSI_102) (by decide) X hw r8 dX12_beginJob_73 h (fun H locs u hw h => ?_)
        exact hret _ _ _ _ _ h hw dX12_beginJob_76
      · exact hret _ _ _ _ _ h hw dX12_beginJob_35
    · refine lv_aload_n hx hb dX12_beginJob_22 rfl (lv_at hl 0 rfl) ?_
      refine lv_iconst hx hb dX12_beginJob_23 (v := jI 2) rfl ?_
      refine kcV (n := 1) (c_fail (by decide) h) G_fail E_fail X hw (Nat.le_trans (Nat.le_of_ble_eq_true rfl) hRf) (Nat.le_trans (Nat.le_of_ble_eq_true rfl) hRl) rfl hl.1 (Nat.le_of_ble_eq_true rfl) rfl dX12_beginJob_24 (fun u H locs h hw => ?_)
      exact hret _ _ _ _ _ h hw dX12_beginJob_27
  · exact hret _ _ _ _ _ h hw dX12_beginJob_12

end
theorem c_beginJob {l : Launch} {a0 : Int} {a1 : Int} (ra0 : inR a0) (ra1 : inR a1) {Q : iST → Prop} {u : iST} (h : w_beginJob a0 a1 Q u) : kMV l yX12_beginJob (.code yX12_beginJob cX12_beginJob 3 none :: wsM) { frames := 2, cells := 0, slots := 0, locals := 41 } [.int (jI a0), .int (jI a1)] Q u := kMV_of rfl (fun _ => Nat.le_of_ble_eq_true rfl) (fun X hRf hRl hret hw hl => b_beginJob_s X hRf hRl hret ra0 ra1 hw hl h)

/-! end0 -/
theorem dX12_end0_0 : decode cX12_end0 0 = .ok (.aload_n 0, 1) := by decide +kernel
theorem dX12_end0_1 : decode cX12_end0 1 = .ok (.dup, 1) := by decide +kernel
theorem dX12_end0_2 : decode cX12_end0 2 = .ok (.getfield 612, 3) := by decide +kernel
theorem dX12_end0_5 : decode cX12_end0 5 = .ok (.iconst 1, 1) := by decide +kernel
theorem dX12_end0_6 : decode cX12_end0 6 = .ok (.isub, 1) := by decide +kernel
theorem dX12_end0_7 : decode cX12_end0 7 = .ok (.putfield 612, 3) := by decide +kernel
theorem dX12_end0_10 : decode cX12_end0 10 = .ok (.aload_n 0, 1) := by decide +kernel
theorem dX12_end0_11 : decode cX12_end0 11 = .ok (.aload_n 0, 1) := by decide +kernel
theorem dX12_end0_12 : decode cX12_end0 12 = .ok (.getfield 193, 3) := by decide +kernel
theorem dX12_end0_15 : decode cX12_end0 15 = .ok (.aload_n 0, 1) := by decide +kernel
theorem dX12_end0_16 : decode cX12_end0 16 = .ok (.getfield 612, 3) := by decide +kernel
theorem dX12_end0_19 : decode cX12_end0 19 = .ok (.baload, 1) := by decide +kernel
theorem dX12_end0_20 : decode cX12_end0 20 = .ok (.ifCond .eq 19, 3) := by decide +kernel
theorem dX12_end0_23 : decode cX12_end0 23 = .ok (.iload_n 1, 1) := by decide +kernel
theorem dX12_end0_24 : decode cX12_end0 24 = .ok (.ifCond .eq 15, 3) := by decide +kernel
theorem dX12_end0_27 : decode cX12_end0 27 = .ok (.aload_n 0, 1) := by decide +kernel
theorem dX12_end0_28 : decode cX12_end0 28 = .ok (.iload_n 1, 1) := by decide +kernel
theorem dX12_end0_29 : decode cX12_end0 29 = .ok (.invokevirtual 546, 3) := by decide +kernel
theorem dX12_end0_32 : decode cX12_end0 32 = .ok (.ifCond .eq 7, 3) := by decide +kernel
theorem dX12_end0_35 : decode cX12_end0 35 = .ok (.iconst 1, 1) := by decide +kernel
theorem dX12_end0_36 : decode cX12_end0 36 = .ok (.goto 4, 3) := by decide +kernel
theorem dX12_end0_39 : decode cX12_end0 39 = .ok (.iload_n 1, 1) := by decide +kernel
theorem dX12_end0_40 : decode cX12_end0 40 = .ok (.putfield 618, 3) := by decide +kernel
theorem dX12_end0_43 : decode cX12_end0 43 = .ok (.aload_n 0, 1) := by decide +kernel
theorem dX12_end0_44 : decode cX12_end0 44 = .ok (.iconst 1, 1) := by decide +kernel
theorem dX12_end0_45 : decode cX12_end0 45 = .ok (.putfield 609, 3) := by decide +kernel
theorem dX12_end0_48 : decode cX12_end0 48 = .ok (.return_, 1) := by decide +kernel

section
variable {p : Program} {l : Launch} {e : Env} {R : Room} {s : State} {m : MethodId} {args : Array Value} {below : List Frame} {meth : Method} {c : Code} {H : Heap} {locs : List Loc} {Qf : State → Prop}
variable {ls : Array Slot} {D : va_G} {ca : Nat → ClassId} {A : Nat → Prop} {h0 : Nat} {ad : Nat → Nat} {H0 : Heap} {u : iST}
def w_end0_40 (Q : iST → Prop) (y1 : Int) (u : iST) : Prop :=
  sw (iI u 110 y1) (fun u => 
  zt 1 (sw (iI u 111 1) (fun u => 
  Q u)))
set_option maxRecDepth 20000 in
set_option maxHeartbeats 4000000 in
theorem b_end0_40 (X : kX p m c cX12_end0 2 s args D ca) (hRf : 3 ≤ R.frames) (hRl : 63 ≤ R.locals) {Q : iST → Prop} (hret : ∀ (u : iST) (H : Heap) (locs : List Loc) (ls : Array Slot) (pc : Nat), Q u → kW D ca A h0 ad H0 H locs u → decode cX12_end0 pc = .ok (.return_, 1) → W p l e R s m args below meth c H locs 0 0 Qf (F0 m pc ls [])) {y1 : Int} (ry1 : inR y1) (hw : kW D ca A h0 ad H0 H locs u) (hl : lv_has ls 2 [(0, .ref h0)]) (h : w_end0_40 Q y1 u) : W p l e R s m args below meth c H locs 0 0 Qf (F0 m 40 ls [.int (jI y1), .ref (h0)]) := by
  have hx := X.1.1
  have hb := X.1.2.1
  unfold w_end0_40 at h
  refine pS 110 618 (by decide) L_110 rfl rfl rfl (fun _ _ _ _ _ => mSI_110) (by decide) X hw ry1 dX12_end0_40 h (fun H locs u hw h => ?_)
  refine lv_aload_n hx hb dX12_end0_43 rfl (lv_at hl 0 rfl) ?_
  refine lv_iconst hx hb dX12_end0_44 (v := jI 1) rfl ?_
  refine pZ 111 609 (by decide) L_111 rfl rfl rfl (fun _ _ _ _ _ => mSI_111) X hw dX12_end0_45 h (fun H locs u hw h => ?_)
  exact hret _ _ _ _ _ h hw dX12_end0_48

def w_end0_39 (Q : iST → Prop) (x1 : Int) (u : iST) : Prop :=
  w_end0_40 Q x1 u
set_option maxRecDepth 20000 in
set_option maxHeartbeats 4000000 in
theorem b_end0_39 (X : kX p m c cX12_end0 2 s args D ca) (hRf : 3 ≤ R.frames) (hRl : 63 ≤ R.locals) {Q : iST → Prop} (hret : ∀ (u : iST) (H : Heap) (locs : List Loc) (ls : Array Slot) (pc : Nat), Q u → kW D ca A h0 ad H0 H locs u → decode cX12_end0 pc = .ok (.return_, 1) → W p l e R s m args below meth c H locs 0 0 Qf (F0 m pc ls [])) {x1 : Int} (rx1 : inR x1) (hw : kW D ca A h0 ad H0 H locs u) (hl : lv_has ls 2 [(0, .ref h0), (1, .int (jI x1))]) (h : w_end0_39 Q x1 u) : W p l e R s m args below meth c H locs 0 0 Qf (F0 m 39 ls [.ref (h0)]) := by
  have hx := X.1.1
  have hb := X.1.2.1
  unfold w_end0_39 at h
  refine lv_iload_n hx hb dX12_end0_39 rfl (lv_at hl 1 rfl) ?_
  exact b_end0_40 X hRf hRl hret rx1 hw (lv_sub hl [0] rfl) h

def w_end0 (a0 : Int) (Q : iST → Prop) (u : iST) : Prop :=
  rd (u.1 102) (fun v1 => 
  ov (v1 - 1) (
  sw (iI u 102 (v1 - 1)) (fun u => 
  rd (u.1 102) (fun v3 => 
  bd v3 60 (rz (u.2.1 93 v3) (fun v4 => 
  br (v4 = 0) (
    w_end0_39 Q a0 u) (
    br (a0 = 0) (
      w_end0_39 Q a0 u) (
      w_isConstant a0 (fun v5 u => 
      br (v5 = 0) (
        w_end0_39 Q a0 u) (
        w_end0_40 Q 1 u)) u))))))))
set_option maxRecDepth 20000 in
set_option maxHeartbeats 4000000 in
theorem b_end0_s (X : kX p m c cX12_end0 2 s args D ca) (hRf : 3 ≤ R.frames) (hRl : 63 ≤ R.locals) {Q : iST → Prop} (hret : ∀ (u : iST) (H : Heap) (locs : List Loc) (ls : Array Slot) (pc : Nat), Q u → kW D ca A h0 ad H0 H locs u → decode cX12_end0 pc = .ok (.return_, 1) → W p l e R s m args below meth c H locs 0 0 Qf (F0 m pc ls [])) {a0 : Int} (ra0 : inR a0) (hw : kW D ca A h0 ad H0 H locs u) (hl : lv_has ls 2 [(0, .ref h0), (1, .int (jI a0))]) (h : w_end0 a0 Q u) : W p l e R s m args below meth c H locs 0 0 Qf (F0 m 0 ls []) := by
  have hx := X.1.1
  have hb := X.1.2.1
  unfold w_end0 at h
  refine lv_aload_n hx hb dX12_end0_0 rfl (lv_at hl 0 rfl) ?_
  refine lv_dup hx hb dX12_end0_1 rfl ?_
  refine gS 102 612 (by decide) L_102 (fun _ _ => mF_102) rfl X hw dX12_end0_2 h (fun v1 rv1 h => ?_)
  refine lv_iconst hx hb dX12_end0_5 (v := jI 1) rfl ?_
  refine k_isub hx hb dX12_end0_6 h (fun r2 h => ?_)
  refine pS 102 612 (by decide) L_102 rfl rfl rfl (fun _ _ _ _ _ => mSI_102) (by decide) X hw r2 dX12_end0_7 h (fun H locs u hw h => ?_)
  refine lv_aload_n hx hb dX12_end0_10 rfl (lv_at hl 0 rfl) ?_
  refine lv_aload_n hx hb dX12_end0_11 rfl (lv_at hl 0 rfl) ?_
  refine gA 93 193 (by decide) L_93 (fun _ _ => mF_93) rfl X hw dX12_end0_12 ?_
  refine lv_aload_n hx hb dX12_end0_15 rfl (lv_at hl 0 rfl) ?_
  refine gS 102 612 (by decide) L_102 (fun _ _ => mF_102) rfl X hw dX12_end0_16 h (fun v3 rv3 h => ?_)
  refine aZ 93 57 56 60 (fun _ _ _ _ => mG_93) (fun _ => rfl) (by decide) X hw rv3 dX12_end0_19 rfl h (fun v4 rv4 h => ?_)
  refine k_if_eq hx hb (bz_in rv4) dX12_end0_20 (tgt := 39) rfl h (fun h => ?_) (fun h => ?_)
  · exact b_end0_39 X hRf hRl hret ra0 hw hl h
  · refine lv_iload_n hx hb dX12_end0_23 rfl (lv_at hl 1 rfl) ?_
    refine k_if_eq hx hb ra0 dX12_end0_24 (tgt := 39) rfl h (fun h => ?_) (fun h => ?_)
    · exact b_end0_39 X hRf hRl hret ra0 hw hl h
    · refine lv_aload_n hx hb dX12_end0_27 rfl (lv_at hl 0 rfl) ?_
      refine lv_iload_n hx hb dX12_end0_28 rfl (lv_at hl 1 rfl) ?_
      refine kcI (n := 1) (c_isConstant ra0 h) G_isConstant E_isConstant X hw (Nat.le_trans (Nat.le_of_ble_eq_true rfl) hRf) (Nat.le_trans (Nat.le_of_ble_eq_true rfl) hRl) rfl hl.1 (Nat.le_of_ble_eq_true rfl) rfl dX12_end0_29 (fun v5 u H locs rv5 h hw => ?_)
      refine k_if_eq hx hb rv5 dX12_end0_32 (tgt := 39) rfl h (fun h => ?_) (fun h => ?_)
      · exact b_end0_39 X hRf hRl hret ra0 hw hl h
      · refine lv_iconst hx hb dX12_end0_35 (v := jI 1) rfl ?_
        refine lv_goto hx hb dX12_end0_36 (tgt := 40) rfl ?_
        exact b_end0_40 X hRf hRl hret (by decide) hw (lv_sub hl [0] rfl) h

end
theorem c_end0 {l : Launch} {a0 : Int} (ra0 : inR a0) {Q : iST → Prop} {u : iST} (h : w_end0 a0 Q u) : kMV l yX12_end0 (.code yX12_end0 cX12_end0 2 none :: wsM) { frames := 3, cells := 0, slots := 0, locals := 63 } [.int (jI a0)] Q u := kMV_of rfl (fun _ => Nat.le_of_ble_eq_true rfl) (fun X hRf hRl hret hw hl => b_end0_s X hRf hRl hret ra0 hw hl h)

/-! passOn -/
theorem dX12_passOn_0 : decode cX12_passOn 0 = .ok (.aload_n 0, 1) := by decide +kernel
theorem dX12_passOn_1 : decode cX12_passOn 1 = .ok (.getfield 612, 3) := by decide +kernel
theorem dX12_passOn_4 : decode cX12_passOn 4 = .ok (.iconst 1, 1) := by decide +kernel
theorem dX12_passOn_5 : decode cX12_passOn 5 = .ok (.isub, 1) := by decide +kernel
theorem dX12_passOn_6 : decode cX12_passOn 6 = .ok (.istore_n 2, 1) := by decide +kernel
theorem dX12_passOn_7 : decode cX12_passOn 7 = .ok (.aload_n 0, 1) := by decide +kernel
theorem dX12_passOn_8 : decode cX12_passOn 8 = .ok (.getfield 196, 3) := by decide +kernel
theorem dX12_passOn_11 : decode cX12_passOn 11 = .ok (.iload_n 2, 1) := by decide +kernel
theorem dX12_passOn_12 : decode cX12_passOn 12 = .ok (.bipush 90, 2) := by decide +kernel
theorem dX12_passOn_14 : decode cX12_passOn 14 = .ok (.iastore, 1) := by decide +kernel
theorem dX12_passOn_15 : decode cX12_passOn 15 = .ok (.aload_n 0, 1) := by decide +kernel
theorem dX12_passOn_16 : decode cX12_passOn 16 = .ok (.iload_n 1, 1) := by decide +kernel
theorem dX12_passOn_17 : decode cX12_passOn 17 = .ok (.aload_n 0, 1) := by decide +kernel
theorem dX12_passOn_18 : decode cX12_passOn 18 = .ok (.getfield 193, 3) := by decide +kernel
theorem dX12_passOn_21 : decode cX12_passOn 21 = .ok (.iload_n 2, 1) := by decide +kernel
theorem dX12_passOn_22 : decode cX12_passOn 22 = .ok (.baload, 1) := by decide +kernel
theorem dX12_passOn_23 : decode cX12_passOn 23 = .ok (.invokevirtual 621, 3) := by decide +kernel
theorem dX12_passOn_26 : decode cX12_passOn 26 = .ok (.return_, 1) := by decide +kernel

section
variable {p : Program} {l : Launch} {e : Env} {R : Room} {s : State} {m : MethodId} {args : Array Value} {below : List Frame} {meth : Method} {c : Code} {H : Heap} {locs : List Loc} {Qf : State → Prop}
variable {ls : Array Slot} {D : va_G} {ca : Nat → ClassId} {A : Nat → Prop} {h0 : Nat} {ad : Nat → Nat} {H0 : Heap} {u : iST}
def w_passOn (a0 : Int) (Q : iST → Prop) (u : iST) : Prop :=
  rd (u.1 102) (fun v1 => 
  ov (v1 - 1) (
  bd (v1 - 1) 60 (sw (iA u 94 (v1 - 1) 90) (fun u => 
  bd (v1 - 1) 60 (rz (u.2.1 93 (v1 - 1)) (fun v3 => 
  w_beginJob a0 v3 (fun u => 
  Q u) u))))))
set_option maxRecDepth 20000 in
set_option maxHeartbeats 4000000 in
theorem b_passOn_s (X : kX p m c cX12_passOn 3 s args D ca) (hRf : 3 ≤ R.frames) (hRl : 63 ≤ R.locals) {Q : iST → Prop} (hret : ∀ (u : iST) (H : Heap) (locs : List Loc) (ls : Array Slot) (pc : Nat), Q u → kW D ca A h0 ad H0 H locs u → decode cX12_passOn pc = .ok (.return_, 1) → W p l e R s m args below meth c H locs 0 0 Qf (F0 m pc ls [])) {a0 : Int} (ra0 : inR a0) (hw : kW D ca A h0 ad H0 H locs u) (hl : lv_has ls 3 [(0, .ref h0), (1, .int (jI a0))]) (h : w_passOn a0 Q u) : W p l e R s m args below meth c H locs 0 0 Qf (F0 m 0 ls []) := by
  have hx := X.1.1
  have hb := X.1.2.1
  unfold w_passOn at h
  refine lv_aload_n hx hb dX12_passOn_0 rfl (lv_at hl 0 rfl) ?_
  refine gS 102 612 (by decide) L_102 (fun _ _ => mF_102) rfl X hw dX12_passOn_1 h (fun v1 rv1 h => ?_)
  refine lv_iconst hx hb dX12_passOn_4 (v := jI 1) rfl ?_
  refine k_isub hx hb dX12_passOn_5 h (fun r2 h => ?_)
  refine lv_istore_n hx hb dX12_passOn_6 rfl hl (by decide) rfl (fun ls hl => ?_)
  have hl : lv_has ls 3 [(2, .int (jI (v1 - 1))), (0, .ref (h0)), (1, .int (jI a0))] := hl
  refine lv_aload_n hx hb dX12_passOn_7 rfl (lv_at hl 1 rfl) ?_
  refine gA 94 196 (by decide) L_94 (fun _ _ => mF_94) rfl X hw dX12_passOn_8 ?_
  refine lv_iload_n hx hb dX12_passOn_11 rfl (lv_at hl 0 rfl) ?_
  refine lv_bipush hx hb dX12_passOn_12 (v := jI 90) rfl ?_
  refine aS 94 58 57 60 (fun _ _ _ _ => mG_94) (fun _ => rfl) (fun _ _ _ _ _ _ => mSA_94) (by decide) X hw r2 (by decide) dX12_passOn_14 rfl h (fun H locs u hw h => ?_)
  refine lv_aload_n hx hb dX12_passOn_15 rfl (lv_at hl 1 rfl) ?_
  refine lv_iload_n hx hb dX12_passOn_16 rfl (lv_at hl 2 rfl) ?_
  refine lv_aload_n hx hb dX12_passOn_17 rfl (lv_at hl 1 rfl) ?_
  refine gA 93 193 (by decide) L_93 (fun _ _ => mF_93) rfl X hw dX12_passOn_18 ?_
  refine lv_iload_n hx hb dX12_passOn_21 rfl (lv_at hl 0 rfl) ?_
  refine aZ 93 57 56 60 (fun _ _ _ _ => mG_93) (fun _ => rfl) (by decide) X hw r2 dX12_passOn_22 rfl h (fun v3 rv3 h => ?_)
  refine kcV (n := 2) (c_beginJob ra0 (bz_in rv3) h) G_beginJob E_beginJob X hw (Nat.le_trans (Nat.le_of_ble_eq_true rfl) hRf) (Nat.le_trans (Nat.le_of_ble_eq_true rfl) hRl) rfl hl.1 (Nat.le_of_ble_eq_true rfl) rfl dX12_passOn_23 (fun u H locs h hw => ?_)
  exact hret _ _ _ _ _ h hw dX12_passOn_26

end
theorem c_passOn {l : Launch} {a0 : Int} (ra0 : inR a0) {Q : iST → Prop} {u : iST} (h : w_passOn a0 Q u) : kMV l yX12_passOn (.code yX12_passOn cX12_passOn 3 none :: wsM) { frames := 3, cells := 0, slots := 0, locals := 63 } [.int (jI a0)] Q u := kMV_of rfl (fun _ => Nat.le_of_ble_eq_true rfl) (fun X hRf hRl hret hw hl => b_passOn_s X hRf hRl hret ra0 hw hl h)

/-! isInContext -/
theorem dX12_isInContext_0 : decode cX12_isInContext 0 = .ok (.iconst 0, 1) := by decide +kernel
theorem dX12_isInContext_1 : decode cX12_isInContext 1 = .ok (.istore_n 2, 1) := by decide +kernel
theorem dX12_isInContext_2 : decode cX12_isInContext 2 = .ok (.iload_n 2, 1) := by decide +kernel
theorem dX12_isInContext_3 : decode cX12_isInContext 3 = .ok (.aload_n 0, 1) := by decide +kernel
theorem dX12_isInContext_4 : decode cX12_isInContext 4 = .ok (.getfield 625, 3) := by decide +kernel
theorem dX12_isInContext_7 : decode cX12_isInContext 7 = .ok (.if_icmp .ge 21, 3) := by decide +kernel
theorem dX12_isInContext_10 : decode cX12_isInContext 10 = .ok (.aload_n 0, 1) := by decide +kernel
theorem dX12_isInContext_11 : decode cX12_isInContext 11 = .ok (.getfield 232, 3) := by decide +kernel
theorem dX12_isInContext_14 : decode cX12_isInContext 14 = .ok (.iload_n 2, 1) := by decide +kernel
theorem dX12_isInContext_15 : decode cX12_isInContext 15 = .ok (.iaload, 1) := by decide +kernel
theorem dX12_isInContext_16 : decode cX12_isInContext 16 = .ok (.iload_n 1, 1) := by decide +kernel
theorem dX12_isInContext_17 : decode cX12_isInContext 17 = .ok (.if_icmp .ne 5, 3) := by decide +kernel
theorem dX12_isInContext_20 : decode cX12_isInContext 20 = .ok (.iconst 1, 1) := by decide +kernel
theorem dX12_isInContext_21 : decode cX12_isInContext 21 = .ok (.ireturn, 1) := by decide +kernel
theorem dX12_isInContext_22 : decode cX12_isInContext 22 = .ok (.iinc 2 1, 3) := by decide +kernel
theorem dX12_isInContext_25 : decode cX12_isInContext 25 = .ok (.goto (-23), 3) := by decide +kernel
theorem dX12_isInContext_28 : decode cX12_isInContext 28 = .ok (.iconst 0, 1) := by decide +kernel
theorem dX12_isInContext_29 : decode cX12_isInContext 29 = .ok (.ireturn, 1) := by decide +kernel

section
variable {p : Program} {l : Launch} {e : Env} {R : Room} {s : State} {m : MethodId} {args : Array Value} {below : List Frame} {meth : Method} {c : Code} {H : Heap} {locs : List Loc} {Qf : State → Prop}
variable {ls : Array Slot} {D : va_G} {ca : Nat → ClassId} {A : Nat → Prop} {h0 : Nat} {ad : Nat → Nat} {H0 : Heap} {u : iST}
def w_isInContext_2b (R2 : Int → Int → iST → Prop) (Q : Int → iST → Prop) (x1 : Int) (x2 : Int) (u : iST) : Prop :=
  rd (u.1 109) (fun v1 => 
  br (v1 ≤ x2) (
    zt 0 (Q 0 u)) (
    bd x2 200 (rd (u.2.1 108 x2) (fun v2 => 
    br (v2 ≠ x1) (
      ov (x2 + 1) (
      R2 x1 (x2 + 1) u)) (
      zt 1 (Q 1 u))))))
def w_isInContext_2 (Q : Int → iST → Prop) (x1 : Int) (x2 : Int) (u : iST) : Prop := ∀ R2 : Int → Int → iST → Prop, (∀ (x1 : Int) (x2 : Int) (u : iST), w_isInContext_2b R2 Q x1 x2 u → R2 x1 x2 u) → R2 x1 x2 u
set_option maxRecDepth 20000 in
set_option maxHeartbeats 4000000 in
theorem b_isInContext_2 (X : kX p m c cX12_isInContext 3 s args D ca) (hRf : 0 ≤ R.frames) (hRl : 0 ≤ R.locals) {Q : Int → iST → Prop} (hret : ∀ (v : Int) (u : iST) (H : Heap) (locs : List Loc) (ls : Array Slot) (pc : Nat), bz v → Q v u → kW D ca A h0 ad H0 H locs u → decode cX12_isInContext pc = .ok (.ireturn, 1) → W p l e R s m args below meth c H locs 0 0 Qf (F0 m pc ls [.int (jI v)])) {x1 x2 : Int} (rx1 : inR x1) (rx2 : inR x2) (hw : kW D ca A h0 ad H0 H locs u) (hl : lv_has ls 3 [(0, .ref h0), (1, .int (jI x1)), (2, .int (jI x2))]) (h : w_isInContext_2 Q x1 x2 u) : W p l e R s m args below meth c H locs 0 0 Qf (F0 m 2 ls []) := by
  refine h (fun x1 x2 u => ∀ (H : Heap) (locs : List Loc) (ls : Array Slot), inR x1 → inR x2 → kW D ca A h0 ad H0 H locs u → lv_has ls 3 [(0, .ref h0), (1, .int (jI x1)), (2, .int (jI x2))] → W p l e R s m args below meth c H locs 0 0 Qf (F0 m 2 ls [])) ?_ H locs ls rx1 rx2 hw hl
  clear h hl hw rx1 rx2
  intro x1 x2 u h H locs ls rx1 rx2 hw hl
  have hR2 : ∀ (x1 : Int) (x2 : Int) (u : iST) (H : Heap) (locs : List Loc) (ls : Array Slot), inR x1 → inR x2 → kW D ca A h0 ad H0 H locs u → lv_has ls 3 [(0, .ref h0), (1, .int (jI x1)), (2, .int (jI x2))] → (fun (x1 : Int) (x2 : Int) u => ∀ (H : Heap) (locs : List Loc) (ls : Array Slot), inR x1 → inR x2 → kW D ca A h0 ad H0 H locs u → lv_has ls 3 [(0, .ref h0), (1, .int (jI x1)), (2, .int (jI x2))] → W p l e R s m args below meth c H locs 0 0 Qf (F0 m 2 ls [])) x1 x2 u → W p l e R s m args below meth c H locs 0 0 Qf (F0 m 2 ls []) := fun x1 x2 u H locs ls rx1 rx2 hw hl h => h H locs ls rx1 rx2 hw hl
  have hx := X.1.1
  have hb := X.1.2.1
  unfold w_isInContext_2b at h
  refine lv_iload_n hx hb dX12_isInContext_2 rfl (lv_at hl 2 rfl) ?_
  refine lv_aload_n hx hb dX12_isInContext_3 rfl (lv_at hl 0 rfl) ?_
  refine gS 109 625 (by decide) L_109 (fun _ _ => mF_109) rfl X hw dX12_isInContext_4 h (fun v1 rv1 h => ?_)
  refine k_icmp_ge hx hb rx2 rv1 dX12_isInContext_7 (tgt := 28) rfl h (fun h => ?_) (fun h => ?_)
  · refine lv_iconst hx hb dX12_isInContext_28 (v := jI 0) rfl ?_
    exact hret _ _ _ _ _ _ h.1 h.2 hw dX12_isInContext_29
  · refine lv_aload_n hx hb dX12_isInContext_10 rfl (lv_at hl 0 rfl) ?_
    refine gA 108 232 (by decide) L_108 (fun _ _ => mF_108) rfl X hw dX12_isInContext_11 ?_
    refine lv_iload_n hx hb dX12_isInContext_14 rfl (lv_at hl 2 rfl) ?_
    refine aL 108 70 69 200 (fun _ _ _ _ => mG_108) (fun _ => rfl) X hw rx2 dX12_isInContext_15 rfl h (fun v2 rv2 h => ?_)
    refine lv_iload_n hx hb dX12_isInContext_16 rfl (lv_at hl 1 rfl) ?_
    refine k_icmp_ne hx hb rv2 rx1 dX12_isInContext_17 (tgt := 22) rfl h (fun h => ?_) (fun h => ?_)
    · refine k_iinc (k := 2) hx hb dX12_isInContext_22 hl rfl (by decide) rfl h (fun ls r3 h hl => ?_)
      have hl : lv_has ls 3 [(2, .int (jI (x2 + 1))), (0, .ref (h0)), (1, .int (jI x1))] := hl
      refine lv_goto hx hb dX12_isInContext_25 (tgt := 2) rfl ?_
      exact hR2 _ _ _ H locs ls rx1 r3 hw (lv_sub hl [1, 2, 0] rfl) h
    · refine lv_iconst hx hb dX12_isInContext_20 (v := jI 1) rfl ?_
      exact hret _ _ _ _ _ _ h.1 h.2 hw dX12_isInContext_21

def w_isInContext (a0 : Int) (Q : Int → iST → Prop) (u : iST) : Prop :=
  w_isInContext_2 Q a0 0 u
set_option maxRecDepth 20000 in
set_option maxHeartbeats 4000000 in
theorem b_isInContext_s (X : kX p m c cX12_isInContext 3 s args D ca) (hRf : 0 ≤ R.frames) (hRl : 0 ≤ R.locals) {Q : Int → iST → Prop} (hret : ∀ (v : Int) (u : iST) (H : Heap) (locs : List Loc) (ls : Array Slot) (pc : Nat), bz v → Q v u → kW D ca A h0 ad H0 H locs u → decode cX12_isInContext pc = .ok (.ireturn, 1) → W p l e R s m args below meth c H locs 0 0 Qf (F0 m pc ls [.int (jI v)])) {a0 : Int} (ra0 : inR a0) (hw : kW D ca A h0 ad H0 H locs u) (hl : lv_has ls 3 [(0, .ref h0), (1, .int (jI a0))]) (h : w_isInContext a0 Q u) : W p l e R s m args below meth c H locs 0 0 Qf (F0 m 0 ls []) := by
  have hx := X.1.1
  have hb := X.1.2.1
  unfold w_isInContext at h
  refine lv_iconst hx hb dX12_isInContext_0 (v := jI 0) rfl ?_
  refine lv_istore_n hx hb dX12_isInContext_1 rfl hl (by decide) rfl (fun ls hl => ?_)
  have hl : lv_has ls 3 [(2, .int (jI 0)), (0, .ref (h0)), (1, .int (jI a0))] := hl
  exact b_isInContext_2 X hRf hRl hret ra0 (by decide) hw (lv_sub hl [1, 2, 0] rfl) h

end
theorem c_isInContext {l : Launch} {a0 : Int} (ra0 : inR a0) {Q : Int → iST → Prop} {u : iST} (h : w_isInContext a0 Q u) : kMI l yX12_isInContext (.code yX12_isInContext cX12_isInContext 3 (some .boolean) :: wsM) { frames := 0, cells := 0, slots := 0, locals := 0 } [.int (jI a0)] Q u := kMZ_of rfl (fun _ => Nat.le_of_ble_eq_true rfl) (fun X hRf hRl hret hw hl => b_isInContext_s X hRf hRl hret ra0 hw hl h)

/-! isDenied -/
theorem dX12_isDenied_0 : decode cX12_isDenied 0 = .ok (.iconst 0, 1) := by decide +kernel
theorem dX12_isDenied_1 : decode cX12_isDenied 1 = .ok (.istore_n 2, 1) := by decide +kernel
theorem dX12_isDenied_2 : decode cX12_isDenied 2 = .ok (.iload_n 2, 1) := by decide +kernel
theorem dX12_isDenied_3 : decode cX12_isDenied 3 = .ok (.aload_n 0, 1) := by decide +kernel
theorem dX12_isDenied_4 : decode cX12_isDenied 4 = .ok (.getfield 625, 3) := by decide +kernel
theorem dX12_isDenied_7 : decode cX12_isDenied 7 = .ok (.if_icmp .ge 46, 3) := by decide +kernel
theorem dX12_isDenied_10 : decode cX12_isDenied 10 = .ok (.aload_n 0, 1) := by decide +kernel
theorem dX12_isDenied_11 : decode cX12_isDenied 11 = .ok (.aload_n 0, 1) := by decide +kernel
theorem dX12_isDenied_12 : decode cX12_isDenied 12 = .ok (.getfield 232, 3) := by decide +kernel
theorem dX12_isDenied_15 : decode cX12_isDenied 15 = .ok (.iload_n 2, 1) := by decide +kernel
theorem dX12_isDenied_16 : decode cX12_isDenied 16 = .ok (.iaload, 1) := by decide +kernel
theorem dX12_isDenied_17 : decode cX12_isDenied 17 = .ok (.bipush 15, 2) := by decide +kernel
theorem dX12_isDenied_19 : decode cX12_isDenied 19 = .ok (.invokevirtual 542, 3) := by decide +kernel
theorem dX12_isDenied_22 : decode cX12_isDenied 22 = .ok (.ifCond .eq 25, 3) := by decide +kernel
theorem dX12_isDenied_25 : decode cX12_isDenied 25 = .ok (.aload_n 0, 1) := by decide +kernel
theorem dX12_isDenied_26 : decode cX12_isDenied 26 = .ok (.getfield 8, 3) := by decide +kernel
theorem dX12_isDenied_29 : decode cX12_isDenied 29 = .ok (.aload_n 0, 1) := by decide +kernel
theorem dX12_isDenied_30 : decode cX12_isDenied 30 = .ok (.getfield 14, 3) := by decide +kernel
theorem dX12_isDenied_33 : decode cX12_isDenied 33 = .ok (.aload_n 0, 1) := by decide +kernel
theorem dX12_isDenied_34 : decode cX12_isDenied 34 = .ok (.getfield 232, 3) := by decide +kernel
theorem dX12_isDenied_37 : decode cX12_isDenied 37 = .ok (.iload_n 2, 1) := by decide +kernel
theorem dX12_isDenied_38 : decode cX12_isDenied 38 = .ok (.iaload, 1) := by decide +kernel
theorem dX12_isDenied_39 : decode cX12_isDenied 39 = .ok (.iaload, 1) := by decide +kernel
theorem dX12_isDenied_40 : decode cX12_isDenied 40 = .ok (.iaload, 1) := by decide +kernel
theorem dX12_isDenied_41 : decode cX12_isDenied 41 = .ok (.iload_n 1, 1) := by decide +kernel
theorem dX12_isDenied_42 : decode cX12_isDenied 42 = .ok (.if_icmp .ne 5, 3) := by decide +kernel
theorem dX12_isDenied_45 : decode cX12_isDenied 45 = .ok (.iconst 1, 1) := by decide +kernel
theorem dX12_isDenied_46 : decode cX12_isDenied 46 = .ok (.ireturn, 1) := by decide +kernel
theorem dX12_isDenied_47 : decode cX12_isDenied 47 = .ok (.iinc 2 1, 3) := by decide +kernel
theorem dX12_isDenied_50 : decode cX12_isDenied 50 = .ok (.goto (-48), 3) := by decide +kernel
theorem dX12_isDenied_53 : decode cX12_isDenied 53 = .ok (.iconst 0, 1) := by decide +kernel
theorem dX12_isDenied_54 : decode cX12_isDenied 54 = .ok (.ireturn, 1) := by decide +kernel

section
variable {p : Program} {l : Launch} {e : Env} {R : Room} {s : State} {m : MethodId} {args : Array Value} {below : List Frame} {meth : Method} {c : Code} {H : Heap} {locs : List Loc} {Qf : State → Prop}
variable {ls : Array Slot} {D : va_G} {ca : Nat → ClassId} {A : Nat → Prop} {h0 : Nat} {ad : Nat → Nat} {H0 : Heap} {u : iST}
def w_isDenied_2b (R2 : Int → Int → iST → Prop) (Q : Int → iST → Prop) (x1 : Int) (x2 : Int) (u : iST) : Prop :=
  rd (u.1 109) (fun v1 => 
  br (v1 ≤ x2) (
    zt 0 (Q 0 u)) (
    bd x2 200 (rd (u.2.1 108 x2) (fun v2 => 
    w_isCallOf v2 15 (fun v3 u => 
    br (v3 = 0) (
      ov (x2 + 1) (
      R2 x1 (x2 + 1) u)) (
      bd x2 200 (rd (u.2.1 108 x2) (fun v5 => 
      bd v5 452000 (rd (u.2.1 1 v5) (fun v6 => 
      bd v6 452000 (rd (u.2.1 0 v6) (fun v7 => 
      br (v7 ≠ x1) (
        ov (x2 + 1) (
        R2 x1 (x2 + 1) u)) (
        zt 1 (Q 1 u)))))))))) u))))
def w_isDenied_2 (Q : Int → iST → Prop) (x1 : Int) (x2 : Int) (u : iST) : Prop := ∀ R2 : Int → Int → iST → Prop, (∀ (x1 : Int) (x2 : Int) (u : iST), w_isDenied_2b R2 Q x1 x2 u → R2 x1 x2 u) → R2 x1 x2 u
set_option maxRecDepth 20000 in
set_option maxHeartbeats 4000000 in
theorem b_isDenied_2 (X : kX p m c cX12_isDenied 3 s args D ca) (hRf : 2 ≤ R.frames) (hRl : 43 ≤ R.locals) {Q : Int → iST → Prop} (hret : ∀ (v : Int) (u : iST) (H : Heap) (locs : List Loc) (ls : Array Slot) (pc : Nat), bz v → Q v u → kW D ca A h0 ad H0 H locs u → decode cX12_isDenied pc = .ok (.ireturn, 1) → W p l e R s m args below meth c H locs 0 0 Qf (F0 m pc ls [.int (jI v)])) {x1 x2 : Int} (rx1 : inR x1) (rx2 : inR x2) (hw : kW D ca A h0 ad H0 H locs u) (hl : lv_has ls 3 [(0, .ref h0), (1, .int (jI x1)), (2, .int (jI x2))]) (h : w_isDenied_2 Q x1 x2 u) : W p l e R s m args below meth c H locs 0 0 Qf (F0 m 2 ls []) := by
  refine h (fun x1 x2 u => ∀ (H : Heap) (locs : List Loc) (ls : Array Slot), inR x1 → inR x2 → kW D ca A h0 ad H0 H locs u → lv_has ls 3 [(0, .ref h0), (1, .int (jI x1)), (2, .int (jI x2))] → W p l e R s m args below meth c H locs 0 0 Qf (F0 m 2 ls [])) ?_ H locs ls rx1 rx2 hw hl
  clear h hl hw rx1 rx2
  intro x1 x2 u h H locs ls rx1 rx2 hw hl
  have hR2 : ∀ (x1 : Int) (x2 : Int) (u : iST) (H : Heap) (locs : List Loc) (ls : Array Slot), inR x1 → inR x2 → kW D ca A h0 ad H0 H locs u → lv_has ls 3 [(0, .ref h0), (1, .int (jI x1)), (2, .int (jI x2))] → (fun (x1 : Int) (x2 : Int) u => ∀ (H : Heap) (locs : List Loc) (ls : Array Slot), inR x1 → inR x2 → kW D ca A h0 ad H0 H locs u → lv_has ls 3 [(0, .ref h0), (1, .int (jI x1)), (2, .int (jI x2))] → W p l e R s m args below meth c H locs 0 0 Qf (F0 m 2 ls [])) x1 x2 u → W p l e R s m args below meth c H locs 0 0 Qf (F0 m 2 ls []) := fun x1 x2 u H locs ls rx1 rx2 hw hl h => h H locs ls rx1 rx2 hw hl
  have hx := X.1.1
  have hb := X.1.2.1
  unfold w_isDenied_2b at h
  refine lv_iload_n hx hb dX12_isDenied_2 rfl (lv_at hl 2 rfl) ?_
  refine lv_aload_n hx hb dX12_isDenied_3 rfl (lv_at hl 0 rfl) ?_
  refine gS 109 625 (by decide) L_109 (fun _ _ => mF_109) rfl X hw dX12_isDenied_4 h (fun v1 rv1 h => ?_)
  refine k_icmp_ge hx hb rx2 rv1 dX12_isDenied_7 (tgt := 53) rfl h (fun h => ?_) (fun h => ?_)
  · refine lv_iconst hx hb dX12_isDenied_53 (v := jI 0) rfl ?_
    exact hret _ _ _ _ _ _ h.1 h.2 hw dX12_isDenied_54
  · refine lv_aload_n hx hb dX12_isDenied_10 rfl (lv_at hl 0 rfl) ?_
    refine lv_aload_n hx hb dX12_isDenied_11 rfl (lv_at hl 0 rfl) ?_
    refine gA 108 232 (by decide) L_108 (fun _ _ => mF_108) rfl X hw dX12_isDenied_12 ?_
    refine lv_iload_n hx hb dX12_isDenied_15 rfl (lv_at hl 2 rfl) ?_
    refine aL 108 70 69 200 (fun _ _ _ _ => mG_108) (fun _ => rfl) X hw rx2 dX12_isDenied_16 rfl h (fun v2 rv2 h => ?_)
    refine lv_bipush hx hb dX12_isDenied_17 (v := jI 15) rfl ?_
    refine kcI (n := 2) (c_isCallOf rv2 (by decide) h) G_isCallOf E_isCallOf X hw (Nat.le_trans (Nat.le_of_ble_eq_true rfl) hRf) (Nat.le_trans (Nat.le_of_ble_eq_true rfl) hRl) rfl hl.1 (Nat.le_of_ble_eq_true rfl) rfl dX12_isDenied_19 (fun v3 u H locs rv3 h hw => ?_)
    refine k_if_eq hx hb rv3 dX12_isDenied_22 (tgt := 47) rfl h (fun h => ?_) (fun h => ?_)
    · refine k_iinc (k := 2) hx hb dX12_isDenied_47 hl rfl (by decide) rfl h (fun ls r4 h hl => ?_)
      have hl : lv_has ls 3 [(2, .int (jI (x2 + 1))), (0, .ref (h0)), (1, .int (jI x1))] := hl
      refine lv_goto hx hb dX12_isDenied_50 (tgt := 2) rfl ?_
      exact hR2 _ _ _ H locs ls rx1 r4 hw (lv_sub hl [1, 2, 0] rfl) h
    · refine lv_aload_n hx hb dX12_isDenied_25 rfl (lv_at hl 0 rfl) ?_
      refine gA 0 8 (by decide) L_0 (fun _ _ => mF_0) rfl X hw dX12_isDenied_26 ?_
      refine lv_aload_n hx hb dX12_isDenied_29 rfl (lv_at hl 0 rfl) ?_
      refine gA 1 14 (by decide) L_1 (fun _ _ => mF_1) rfl X hw dX12_isDenied_30 ?_
      refine lv_aload_n hx hb dX12_isDenied_33 rfl (lv_at hl 0 rfl) ?_
      refine gA 108 232 (by decide) L_108 (fun _ _ => mF_108) rfl X hw dX12_isDenied_34 ?_
      refine lv_iload_n hx hb dX12_isDenied_37 rfl (lv_at hl 2 rfl) ?_
      refine aL 108 70 69 200 (fun _ _ _ _ => mG_108) (fun _ => rfl) X hw rx2 dX12_isDenied_38 rfl h (fun v5 rv5 h => ?_)
      refine aL 1 2 1 452000 (fun _ _ _ _ => mG_1) (fun _ => rfl) X hw rv5 dX12_isDenied_39 rfl h (fun v6 rv6 h => ?_)
      refine aL 0 1 0 452000 (fun _ _ _ _ => mG_0) (fun _ => rfl) X hw rv6 dX12_isDenied_40 rfl h (fun v7 rv7 h => ?_)
      refine lv_iload_n hx hb dX12_isDenied_41 rfl (lv_at hl 1 rfl) ?_
      refine k_icmp_ne hx hb rv7 rx1 dX12_isDenied_42 (tgt := 47) rfl h (fun h => ?_) (fun h => ?_)
      · refine k_iinc (k := 2) hx hb dX12_isDenied_47 hl rfl (by decide) rfl h (fun ls r8 h hl => ?_)
        have hl : lv_has ls 3 [(2, .int (jI (x2 + 1))), (0, .ref (h0)), (1, .int (jI x1))] := hl
        refine lv_goto hx hb dX12_isDenied_50 (tgt := 2) rfl ?_
        exact hR2 _ _ _ H locs ls rx1 r8 hw (lv_sub hl [1, 2, 0] rfl) h
      · refine lv_iconst hx hb dX12_isDenied_45 (v := jI 1) rfl ?_
        exact hret _ _ _ _ _ _ h.1 h.2 hw dX12_isDenied_46

def w_isDenied (a0 : Int) (Q : Int → iST → Prop) (u : iST) : Prop :=
  w_isDenied_2 Q a0 0 u
set_option maxRecDepth 20000 in
set_option maxHeartbeats 4000000 in
theorem b_isDenied_s (X : kX p m c cX12_isDenied 3 s args D ca) (hRf : 2 ≤ R.frames) (hRl : 43 ≤ R.locals) {Q : Int → iST → Prop} (hret : ∀ (v : Int) (u : iST) (H : Heap) (locs : List Loc) (ls : Array Slot) (pc : Nat), bz v → Q v u → kW D ca A h0 ad H0 H locs u → decode cX12_isDenied pc = .ok (.ireturn, 1) → W p l e R s m args below meth c H locs 0 0 Qf (F0 m pc ls [.int (jI v)])) {a0 : Int} (ra0 : inR a0) (hw : kW D ca A h0 ad H0 H locs u) (hl : lv_has ls 3 [(0, .ref h0), (1, .int (jI a0))]) (h : w_isDenied a0 Q u) : W p l e R s m args below meth c H locs 0 0 Qf (F0 m 0 ls []) := by
  have hx := X.1.1
  have hb := X.1.2.1
  unfold w_isDenied at h
  refine lv_iconst hx hb dX12_isDenied_0 (v := jI 0) rfl ?_
  refine lv_istore_n hx hb dX12_isDenied_1 rfl hl (by decide) rfl (fun ls hl => ?_)
  have hl : lv_has ls 3 [(2, .int (jI 0)), (0, .ref (h0)), (1, .int (jI a0))] := hl
  exact b_isDenied_2 X hRf hRl hret ra0 (by decide) hw (lv_sub hl [1, 2, 0] rfl) h

end
theorem c_isDenied {l : Launch} {a0 : Int} (ra0 : inR a0) {Q : Int → iST → Prop} {u : iST} (h : w_isDenied a0 Q u) : kMI l yX12_isDenied (.code yX12_isDenied cX12_isDenied 3 (some .boolean) :: wsM) { frames := 2, cells := 0, slots := 0, locals := 43 } [.int (jI a0)] Q u := kMZ_of rfl (fun _ => Nat.le_of_ble_eq_true rfl) (fun X hRf hRl hret hw hl => b_isDenied_s X hRf hRl hret ra0 hw hl h)

/-! lookedUp -/
theorem dX12_lookedUp_0 : decode cX12_lookedUp 0 = .ok (.aload_n 0, 1) := by decide +kernel
theorem dX12_lookedUp_1 : decode cX12_lookedUp 1 = .ok (.iload_n 1, 1) := by decide +kernel
theorem dX12_lookedUp_2 : decode cX12_lookedUp 2 = .ok (.invokevirtual 628, 3) := by decide +kernel
theorem dX12_lookedUp_5 : decode cX12_lookedUp 5 = .ok (.ifCond .eq 17, 3) := by decide +kernel
theorem dX12_lookedUp_8 : decode cX12_lookedUp 8 = .ok (.iload_n 2, 1) := by decide +kernel
theorem dX12_lookedUp_9 : decode cX12_lookedUp 9 = .ok (.ifCond .ne 11, 3) := by decide +kernel
theorem dX12_lookedUp_12 : decode cX12_lookedUp 12 = .ok (.aload_n 0, 1) := by decide +kernel
theorem dX12_lookedUp_13 : decode cX12_lookedUp 13 = .ok (.iload_n 1, 1) := by decide +kernel
theorem dX12_lookedUp_14 : decode cX12_lookedUp 14 = .ok (.invokevirtual 631, 3) := by decide +kernel
theorem dX12_lookedUp_17 : decode cX12_lookedUp 17 = .ok (.ifCond .eq 5, 3) := by decide +kernel
theorem dX12_lookedUp_20 : decode cX12_lookedUp 20 = .ok (.iconst 1, 1) := by decide +kernel
theorem dX12_lookedUp_21 : decode cX12_lookedUp 21 = .ok (.ireturn, 1) := by decide +kernel
theorem dX12_lookedUp_22 : decode cX12_lookedUp 22 = .ok (.aload_n 0, 1) := by decide +kernel
theorem dX12_lookedUp_23 : decode cX12_lookedUp 23 = .ok (.iload_n 1, 1) := by decide +kernel
theorem dX12_lookedUp_24 : decode cX12_lookedUp 24 = .ok (.invokevirtual 634, 3) := by decide +kernel
theorem dX12_lookedUp_27 : decode cX12_lookedUp 27 = .ok (.ifCond .eq 5, 3) := by decide +kernel
theorem dX12_lookedUp_30 : decode cX12_lookedUp 30 = .ok (.iconst 0, 1) := by decide +kernel
theorem dX12_lookedUp_31 : decode cX12_lookedUp 31 = .ok (.ireturn, 1) := by decide +kernel
theorem dX12_lookedUp_32 : decode cX12_lookedUp 32 = .ok (.iconst 0, 1) := by decide +kernel
theorem dX12_lookedUp_33 : decode cX12_lookedUp 33 = .ok (.istore_n 3, 1) := by decide +kernel
theorem dX12_lookedUp_34 : decode cX12_lookedUp 34 = .ok (.iload_n 3, 1) := by decide +kernel
theorem dX12_lookedUp_35 : decode cX12_lookedUp 35 = .ok (.aload_n 0, 1) := by decide +kernel
theorem dX12_lookedUp_36 : decode cX12_lookedUp 36 = .ok (.getfield 625, 3) := by decide +kernel
theorem dX12_lookedUp_39 : decode cX12_lookedUp 39 = .ok (.if_icmp .ge 88, 3) := by decide +kernel
theorem dX12_lookedUp_42 : decode cX12_lookedUp 42 = .ok (.aload_n 0, 1) := by decide +kernel
theorem dX12_lookedUp_43 : decode cX12_lookedUp 43 = .ok (.aload_n 0, 1) := by decide +kernel
theorem dX12_lookedUp_44 : decode cX12_lookedUp 44 = .ok (.getfield 232, 3) := by decide +kernel
theorem dX12_lookedUp_47 : decode cX12_lookedUp 47 = .ok (.iload_n 3, 1) := by decide +kernel
theorem dX12_lookedUp_48 : decode cX12_lookedUp 48 = .ok (.iaload, 1) := by decide +kernel
theorem dX12_lookedUp_49 : decode cX12_lookedUp 49 = .ok (.iconst 4, 1) := by decide +kernel
theorem dX12_lookedUp_50 : decode cX12_lookedUp 50 = .ok (.invokevirtual 542, 3) := by decide +kernel
theorem dX12_lookedUp_53 : decode cX12_lookedUp 53 = .ok (.ifCond .ne 6, 3) := by decide +kernel
theorem dX12_lookedUp_56 : decode cX12_lookedUp 56 = .ok (.goto 65, 3) := by decide +kernel
theorem dX12_lookedUp_59 : decode cX12_lookedUp 59 = .ok (.aload_n 0, 1) := by decide +kernel
theorem dX12_lookedUp_60 : decode cX12_lookedUp 60 = .ok (.aload_n 0, 1) := by decide +kernel
theorem dX12_lookedUp_61 : decode cX12_lookedUp 61 = .ok (.getfield 232, 3) := by decide +kernel
theorem dX12_lookedUp_64 : decode cX12_lookedUp 64 = .ok (.iload_n 3, 1) := by decide +kernel
theorem dX12_lookedUp_65 : decode cX12_lookedUp 65 = .ok (.iaload, 1) := by decide +kernel
theorem dX12_lookedUp_66 : decode cX12_lookedUp 66 = .ok (.iconst 1, 1) := by decide +kernel
theorem dX12_lookedUp_67 : decode cX12_lookedUp 67 = .ok (.invokevirtual 592, 3) := by decide +kernel
theorem dX12_lookedUp_70 : decode cX12_lookedUp 70 = .ok (.istore 4, 2) := by decide +kernel
theorem dX12_lookedUp_72 : decode cX12_lookedUp 72 = .ok (.aload_n 0, 1) := by decide +kernel
theorem dX12_lookedUp_73 : decode cX12_lookedUp 73 = .ok (.aload_n 0, 1) := by decide +kernel
theorem dX12_lookedUp_74 : decode cX12_lookedUp 74 = .ok (.getfield 232, 3) := by decide +kernel
theorem dX12_lookedUp_77 : decode cX12_lookedUp 77 = .ok (.iload_n 3, 1) := by decide +kernel
theorem dX12_lookedUp_78 : decode cX12_lookedUp 78 = .ok (.iaload, 1) := by decide +kernel
theorem dX12_lookedUp_79 : decode cX12_lookedUp 79 = .ok (.iconst 2, 1) := by decide +kernel
theorem dX12_lookedUp_80 : decode cX12_lookedUp 80 = .ok (.invokevirtual 592, 3) := by decide +kernel
theorem dX12_lookedUp_83 : decode cX12_lookedUp 83 = .ok (.istore 5, 2) := by decide +kernel
theorem dX12_lookedUp_85 : decode cX12_lookedUp 85 = .ok (.iload 4, 2) := by decide +kernel
theorem dX12_lookedUp_87 : decode cX12_lookedUp 87 = .ok (.iload_n 1, 1) := by decide +kernel
theorem dX12_lookedUp_88 : decode cX12_lookedUp 88 = .ok (.if_icmp .ne 15, 3) := by decide +kernel
theorem dX12_lookedUp_91 : decode cX12_lookedUp 91 = .ok (.aload_n 0, 1) := by decide +kernel
theorem dX12_lookedUp_92 : decode cX12_lookedUp 92 = .ok (.iload 5, 2) := by decide +kernel
theorem dX12_lookedUp_94 : decode cX12_lookedUp 94 = .ok (.invokevirtual 546, 3) := by decide +kernel
theorem dX12_lookedUp_97 : decode cX12_lookedUp 97 = .ok (.ifCond .eq 6, 3) := by decide +kernel
theorem dX12_lookedUp_100 : decode cX12_lookedUp 100 = .ok (.iload 5, 2) := by decide +kernel
theorem dX12_lookedUp_102 : decode cX12_lookedUp 102 = .ok (.ireturn, 1) := by decide +kernel
theorem dX12_lookedUp_103 : decode cX12_lookedUp 103 = .ok (.iload 5, 2) := by decide +kernel
theorem dX12_lookedUp_105 : decode cX12_lookedUp 105 = .ok (.iload_n 1, 1) := by decide +kernel
theorem dX12_lookedUp_106 : decode cX12_lookedUp 106 = .ok (.if_icmp .ne 15, 3) := by decide +kernel
theorem dX12_lookedUp_109 : decode cX12_lookedUp 109 = .ok (.aload_n 0, 1) := by decide +kernel
theorem dX12_lookedUp_110 : decode cX12_lookedUp 110 = .ok (.iload 4, 2) := by decide +kernel
theorem dX12_lookedUp_112 : decode cX12_lookedUp 112 = .ok (.invokevirtual 546, 3) := by decide +kernel
theorem dX12_lookedUp_115 : decode cX12_lookedUp 115 = .ok (.ifCond .eq 6, 3) := by decide +kernel
theorem dX12_lookedUp_118 : decode cX12_lookedUp 118 = .ok (.iload 4, 2) := by decide +kernel
theorem dX12_lookedUp_120 : decode cX12_lookedUp 120 = .ok (.ireturn, 1) := by decide +kernel
theorem dX12_lookedUp_121 : decode cX12_lookedUp 121 = .ok (.iinc 3 1, 3) := by decide +kernel
theorem dX12_lookedUp_124 : decode cX12_lookedUp 124 = .ok (.goto (-90), 3) := by decide +kernel
theorem dX12_lookedUp_127 : decode cX12_lookedUp 127 = .ok (.iload_n 1, 1) := by decide +kernel
theorem dX12_lookedUp_128 : decode cX12_lookedUp 128 = .ok (.ireturn, 1) := by decide +kernel

section
variable {p : Program} {l : Launch} {e : Env} {R : Room} {s : State} {m : MethodId} {args : Array Value} {below : List Frame} {meth : Method} {c : Code} {H : Heap} {locs : List Loc} {Qf : State → Prop}
variable {ls : Array Slot} {D : va_G} {ca : Nat → ClassId} {A : Nat → Prop} {h0 : Nat} {ad : Nat → Nat} {H0 : Heap} {u : iST}
def w_lookedUp_103 (R34 : Int → Int → iST → Prop) (Q : Int → iST → Prop) (x1 : Int) (x3 : Int) (x4 : Int) (x5 : Int) (u : iST) : Prop :=
  br (x5 ≠ x1) (
    ov (x3 + 1) (
    R34 x1 (x3 + 1) u)) (
    w_isConstant x4 (fun v11 u => 
    br (v11 = 0) (
      ov (x3 + 1) (
      R34 x1 (x3 + 1) u)) (
      Q x4 u)) u)
set_option maxRecDepth 20000 in
set_option maxHeartbeats 4000000 in
theorem b_lookedUp_103 (X : kX p m c cX12_lookedUp 6 s args D ca) (hRf : 3 ≤ R.frames) (hRl : 65 ≤ R.locals) {Q : Int → iST → Prop} (hret : ∀ (v : Int) (u : iST) (H : Heap) (locs : List Loc) (ls : Array Slot) (pc : Nat), inR v → Q v u → kW D ca A h0 ad H0 H locs u → decode cX12_lookedUp pc = .ok (.ireturn, 1) → W p l e R s m args below meth c H locs 0 0 Qf (F0 m pc ls [.int (jI v)])) {R34 : Int → Int → iST → Prop} (hR34 : ∀ (x1 : Int) (x3 : Int) (u : iST) (H : Heap) (locs : List Loc) (ls : Array Slot), inR x1 → inR x3 → kW D ca A h0 ad H0 H locs u → lv_has ls 6 [(0, .ref h0), (1, .int (jI x1)), (3, .int (jI x3))] → R34 x1 x3 u → W p l e R s m args below meth c H locs 0 0 Qf (F0 m 34 ls [])) {x1 x3 x4 x5 : Int} (rx1 : inR x1) (rx3 : inR x3) (rx4 : inR x4) (rx5 : inR x5) (hw : kW D ca A h0 ad H0 H locs u) (hl : lv_has ls 6 [(0, .ref h0), (1, .int (jI x1)), (3, .int (jI x3)), (4, .int (jI x4)), (5, .int (jI x5))]) (h : w_lookedUp_103 R34 Q x1 x3 x4 x5 u) : W p l e R s m args below meth c H locs 0 0 Qf (F0 m 103 ls []) := by
  have hx := X.1.1
  have hb := X.1.2.1
  unfold w_lookedUp_103 at h
  refine lv_iload hx hb dX12_lookedUp_103 (lv_at hl 4 rfl) ?_
  refine lv_iload_n hx hb dX12_lookedUp_105 rfl (lv_at hl 1 rfl) ?_
  refine k_icmp_ne hx hb rx5 rx1 dX12_lookedUp_106 (tgt := 121) rfl h (fun h => ?_) (fun h => ?_)
  · refine k_iinc (k := 2) hx hb dX12_lookedUp_121 hl rfl (by decide) rfl h (fun ls r10 h hl => ?_)
    have hl : lv_has ls 6 [(3, .int (jI (x3 + 1))), (0, .ref (h0)), (1, .int (jI x1)), (4, .int (jI x4)), (5, .int (jI x5))] := hl
    refine lv_goto hx hb dX12_lookedUp_124 (tgt := 34) rfl ?_
    exact hR34 _ _ _ H locs ls rx1 r10 hw (lv_sub hl [1, 2, 0] rfl) h
  · refine lv_aload_n hx hb dX12_lookedUp_109 rfl (lv_at hl 0 rfl) ?_
    refine lv_iload hx hb dX12_lookedUp_110 (lv_at hl 3 rfl) ?_
    refine kcI (n := 1) (c_isConstant rx4 h) G_isConstant E_isConstant X hw (Nat.le_trans (Nat.le_of_ble_eq_true rfl) hRf) (Nat.le_trans (Nat.le_of_ble_eq_true rfl) hRl) rfl hl.1 (Nat.le_of_ble_eq_true rfl) rfl dX12_lookedUp_112 (fun v11 u H locs rv11 h hw => ?_)
    refine k_if_eq hx hb rv11 dX12_lookedUp_115 (tgt := 121) rfl h (fun h => ?_) (fun h => ?_)
    · refine k_iinc (k := 2) hx hb dX12_lookedUp_121 hl rfl (by decide) rfl h (fun ls r12 h hl => ?_)
      have hl : lv_has ls 6 [(3, .int (jI (x3 + 1))), (0, .ref (h0)), (1, .int (jI x1)), (4, .int (jI x4)), (5, .int (jI x5))] := hl
      refine lv_goto hx hb dX12_lookedUp_124 (tgt := 34) rfl ?_
      exact hR34 _ _ _ H locs ls rx1 r12 hw (lv_sub hl [1, 2, 0] rfl) h
    · refine lv_iload hx hb dX12_lookedUp_118 (lv_at hl 3 rfl) ?_
      exact hret _ _ _ _ _ _ rx4 h hw dX12_lookedUp_120

def w_lookedUp_34b (R34 : Int → Int → iST → Prop) (Q : Int → iST → Prop) (x1 : Int) (x3 : Int) (u : iST) : Prop :=
  rd (u.1 109) (fun v3 => 
  br (v3 ≤ x3) (
    Q x1 u) (
    bd x3 200 (rd (u.2.1 108 x3) (fun v4 => 
    w_isCallOf v4 4 (fun v5 u => 
    br (v5 ≠ 0) (
      bd x3 200 (rd (u.2.1 108 x3) (fun v6 => 
      w_term v6 1 (fun v7 u => 
      bd x3 200 (rd (u.2.1 108 x3) (fun v8 => 
      w_term v8 2 (fun v9 u => 
      br (v7 ≠ x1) (
        w_lookedUp_103 R34 Q x1 x3 v7 v9 u) (
        w_isConstant v9 (fun v13 u => 
        br (v13 = 0) (
          w_lookedUp_103 R34 Q x1 x3 v7 v9 u) (
          Q v9 u)) u)) u))) u))) (
      ov (x3 + 1) (
      R34 x1 (x3 + 1) u))) u))))
def w_lookedUp_34 (Q : Int → iST → Prop) (x1 : Int) (x3 : Int) (u : iST) : Prop := ∀ R34 : Int → Int → iST → Prop, (∀ (x1 : Int) (x3 : Int) (u : iST), w_lookedUp_34b R34 Q x1 x3 u → R34 x1 x3 u) → R34 x1 x3 u
set_option maxRecDepth 20000 in
set_option maxHeartbeats 4000000 in
theorem b_lookedUp_34 (X : kX p m c cX12_lookedUp 6 s args D ca) (hRf : 3 ≤ R.frames) (hRl : 65 ≤ R.locals) {Q : Int → iST → Prop} (hret : ∀ (v : Int) (u : iST) (H : Heap) (locs : List Loc) (ls : Array Slot) (pc : Nat), inR v → Q v u → kW D ca A h0 ad H0 H locs u → decode cX12_lookedUp pc = .ok (.ireturn, 1) → W p l e R s m args below meth c H locs 0 0 Qf (F0 m pc ls [.int (jI v)])) {x1 x3 : Int} (rx1 : inR x1) (rx3 : inR x3) (hw : kW D ca A h0 ad H0 H locs u) (hl : lv_has ls 6 [(0, .ref h0), (1, .int (jI x1)), (3, .int (jI x3))]) (h : w_lookedUp_34 Q x1 x3 u) : W p l e R s m args below meth c H locs 0 0 Qf (F0 m 34 ls []) := by
  refine h (fun x1 x3 u => ∀ (H : Heap) (locs : List Loc) (ls : Array Slot), inR x1 → inR x3 → kW D ca A h0 ad H0 H locs u → lv_has ls 6 [(0, .ref h0), (1, .int (jI x1)), (3, .int (jI x3))] → W p l e R s m args below meth c H locs 0 0 Qf (F0 m 34 ls [])) ?_ H locs ls rx1 rx3 hw hl
  clear h hl hw rx1 rx3
  intro x1 x3 u h H locs ls rx1 rx3 hw hl
  have hR34 : ∀ (x1 : Int) (x3 : Int) (u : iST) (H : Heap) (locs : List Loc) (ls : Array Slot), inR x1 → inR x3 → kW D ca A h0 ad H0 H locs u → lv_has ls 6 [(0, .ref h0), (1, .int (jI x1)), (3, .int (jI x3))] → (fun (x1 : Int) (x3 : Int) u => ∀ (H : Heap) (locs : List Loc) (ls : Array Slot), inR x1 → inR x3 → kW D ca A h0 ad H0 H locs u → lv_has ls 6 [(0, .ref h0), (1, .int (jI x1)), (3, .int (jI x3))] → W p l e R s m args below meth c H locs 0 0 Qf (F0 m 34 ls [])) x1 x3 u → W p l e R s m args below meth c H locs 0 0 Qf (F0 m 34 ls []) := fun x1 x3 u H locs ls rx1 rx3 hw hl h => h H locs ls rx1 rx3 hw hl
  have hx := X.1.1
  have hb := X.1.2.1
  unfold w_lookedUp_34b at h
  refine lv_iload_n hx hb dX12_lookedUp_34 rfl (lv_at hl 2 rfl) ?_
  refine lv_aload_n hx hb dX12_lookedUp_35 rfl (lv_at hl 0 rfl) ?_
  refine gS 109 625 (by decide) L_109 (fun _ _ => mF_109) rfl X hw dX12_lookedUp_36 h (fun v3 rv3 h => ?_)
  refine k_icmp_ge hx hb rx3 rv3 dX12_lookedUp_39 (tgt := 127) rfl h (fun h => ?_) (fun h => ?_)
  · refine lv_iload_n hx hb dX12_lookedUp_127 rfl (lv_at hl 1 rfl) ?_
    exact hret _ _ _ _ _ _ rx1 h hw dX12_lookedUp_128
  · refine lv_aload_n hx hb dX12_lookedUp_42 rfl (lv_at hl 0 rfl) ?_
    refine lv_aload_n hx hb dX12_lookedUp_43 rfl (lv_at hl 0 rfl) ?_
    refine gA 108 232 (by decide) L_108 (fun _ _ => mF_108) rfl X hw dX12_lookedUp_44 ?_
    refine lv_iload_n hx hb dX12_lookedUp_47 rfl (lv_at hl 2 rfl) ?_
    refine aL 108 70 69 200 (fun _ _ _ _ => mG_108) (fun _ => rfl) X hw rx3 dX12_lookedUp_48 rfl h (fun v4 rv4 h => ?_)
    refine lv_iconst hx hb dX12_lookedUp_49 (v := jI 4) rfl ?_
    refine kcI (n := 2) (c_isCallOf rv4 (by decide) h) G_isCallOf E_isCallOf X hw (Nat.le_trans (Nat.le_of_ble_eq_true rfl) hRf) (Nat.le_trans (Nat.le_of_ble_eq_true rfl) hRl) rfl hl.1 (Nat.le_of_ble_eq_true rfl) rfl dX12_lookedUp_50 (fun v5 u H locs rv5 h hw => ?_)
    refine k_if_ne hx hb rv5 dX12_lookedUp_53 (tgt := 59) rfl h (fun h => ?_) (fun h => ?_)
    · refine lv_aload_n hx hb dX12_lookedUp_59 rfl (lv_at hl 0 rfl) ?_
      refine lv_aload_n hx hb dX12_lookedUp_60 rfl (lv_at hl 0 rfl) ?_
      refine gA 108 232 (by decide) L_108 (fun _ _ => mF_108) rfl X hw dX12_lookedUp_61 ?_
      refine lv_iload_n hx hb dX12_lookedUp_64 rfl (lv_at hl 2 rfl) ?_
      refine aL 108 70 69 200 (fun _ _ _ _ => mG_108) (fun _ => rfl) X hw rx3 dX12_lookedUp_65 rfl h (fun v6 rv6 h => ?_)
      refine lv_iconst hx hb dX12_lookedUp_66 (v := jI 1) rfl ?_
      refine kcI (n := 2) (c_term rv6 (by decide) h) G_term E_term X hw (Nat.le_trans (Nat.le_of_ble_eq_true rfl) hRf) (Nat.le_trans (Nat.le_of_ble_eq_true rfl) hRl) rfl hl.1 (Nat.le_of_ble_eq_true rfl) rfl dX12_lookedUp_67 (fun v7 u H locs rv7 h hw => ?_)
      refine lv_istore hx hb dX12_lookedUp_70 hl (by decide) rfl (fun ls hl => ?_)
      have hl : lv_has ls 6 [(4, .int (jI v7)), (0, .ref (h0)), (1, .int (jI x1)), (3, .int (jI x3))] := hl
      refine lv_aload_n hx hb dX12_lookedUp_72 rfl (lv_at hl 1 rfl) ?_
      refine lv_aload_n hx hb dX12_lookedUp_73 rfl (lv_at hl 1 rfl) ?_
      refine gA 108 232 (by decide) L_108 (fun _ _ => mF_108) rfl X hw dX12_lookedUp_74 ?_
      refine lv_iload_n hx hb dX12_lookedUp_77 rfl (lv_at hl 3 rfl) ?_
      refine aL 108 70 69 200 (fun _ _ _ _ => mG_108) (fun _ => rfl) X hw rx3 dX12_lookedUp_78 rfl h (fun v8 rv8 h => ?_)
      refine lv_iconst hx hb dX12_lookedUp_79 (v := jI 2) rfl ?_
      refine kcI (n := 2) (c_term rv8 (by decide) h) G_term E_term X hw (Nat.le_trans (Nat.le_of_ble_eq_true rfl) hRf) (Nat.le_trans (Nat.le_of_ble_eq_true rfl) hRl) rfl hl.1 (Nat.le_of_ble_eq_true rfl) rfl dX12_lookedUp_80 (fun v9 u H locs rv9 h hw => ?_)
      refine lv_istore hx hb dX12_lookedUp_83 hl (by decide) rfl (fun ls hl => ?_)
      have hl : lv_has ls 6 [(5, .int (jI v9)), (4, .int (jI v7)), (0, .ref (h0)), (1, .int (jI x1)), (3, .int (jI x3))] := hl
      refine lv_iload hx hb dX12_lookedUp_85 (lv_at hl 1 rfl) ?_
      refine lv_iload_n hx hb dX12_lookedUp_87 rfl (lv_at hl 3 rfl) ?_
      refine k_icmp_ne hx hb rv7 rx1 dX12_lookedUp_88 (tgt := 103) rfl h (fun h => ?_) (fun h => ?_)
      · exact b_lookedUp_103 X hRf hRl hret hR34 rx1 rx3 rv7 rv9 hw (lv_sub hl [2, 3, 4, 1, 0] rfl) h
      · refine lv_aload_n hx hb dX12_lookedUp_91 rfl (lv_at hl 2 rfl) ?_
        refine lv_iload hx hb dX12_lookedUp_92 (lv_at hl 0 rfl) ?_
        refine kcI (n := 1) (c_isConstant rv9 h) G_isConstant E_isConstant X hw (Nat.le_trans (Nat.le_of_ble_eq_true rfl) hRf) (Nat.le_trans (Nat.le_of_ble_eq_true rfl) hRl) rfl hl.1 (Nat.le_of_ble_eq_true rfl) rfl dX12_lookedUp_94 (fun v13 u H locs rv13 h hw => ?_)
        refine k_if_eq hx hb rv13 dX12_lookedUp_97 (tgt := 103) rfl h (fun h => ?_) (fun h => ?_)
        · exact b_lookedUp_103 X hRf hRl hret hR34 rx1 rx3 rv7 rv9 hw (lv_sub hl [2, 3, 4, 1, 0] rfl) h
        · refine lv_iload hx hb dX12_lookedUp_100 (lv_at hl 0 rfl) ?_
          exact hret _ _ _ _ _ _ rv9 h hw dX12_lookedUp_102
    · refine lv_goto hx hb dX12_lookedUp_56 (tgt := 121) rfl ?_
      refine k_iinc (k := 2) hx hb dX12_lookedUp_121 hl rfl (by decide) rfl h (fun ls r14 h hl => ?_)
      have hl : lv_has ls 6 [(3, .int (jI (x3 + 1))), (0, .ref (h0)), (1, .int (jI x1))] := hl
      refine lv_goto hx hb dX12_lookedUp_124 (tgt := 34) rfl ?_
      exact hR34 _ _ _ H locs ls rx1 r14 hw (lv_sub hl [1, 2, 0] rfl) h

def w_lookedUp_22 (Q : Int → iST → Prop) (x1 : Int) (u : iST) : Prop :=
  w_isDenied x1 (fun v2 u => 
  br (v2 = 0) (
    w_lookedUp_34 Q x1 0 u) (
    Q 0 u)) u
set_option maxRecDepth 20000 in
set_option maxHeartbeats 4000000 in
theorem b_lookedUp_22 (X : kX p m c cX12_lookedUp 6 s args D ca) (hRf : 3 ≤ R.frames) (hRl : 65 ≤ R.locals) {Q : Int → iST → Prop} (hret : ∀ (v : Int) (u : iST) (H : Heap) (locs : List Loc) (ls : Array Slot) (pc : Nat), inR v → Q v u → kW D ca A h0 ad H0 H locs u → decode cX12_lookedUp pc = .ok (.ireturn, 1) → W p l e R s m args below meth c H locs 0 0 Qf (F0 m pc ls [.int (jI v)])) {x1 : Int} (rx1 : inR x1) (hw : kW D ca A h0 ad H0 H locs u) (hl : lv_has ls 6 [(0, .ref h0), (1, .int (jI x1))]) (h : w_lookedUp_22 Q x1 u) : W p l e R s m args below meth c H locs 0 0 Qf (F0 m 22 ls []) := by
  have hx := X.1.1
  have hb := X.1.2.1
  unfold w_lookedUp_22 at h
  refine lv_aload_n hx hb dX12_lookedUp_22 rfl (lv_at hl 0 rfl) ?_
  refine lv_iload_n hx hb dX12_lookedUp_23 rfl (lv_at hl 1 rfl) ?_
  refine kcI (n := 1) (c_isDenied rx1 h) G_isDenied E_isDenied X hw (Nat.le_trans (Nat.le_of_ble_eq_true rfl) hRf) (Nat.le_trans (Nat.le_of_ble_eq_true rfl) hRl) rfl hl.1 (Nat.le_of_ble_eq_true rfl) rfl dX12_lookedUp_24 (fun v2 u H locs rv2 h hw => ?_)
  refine k_if_eq hx hb rv2 dX12_lookedUp_27 (tgt := 32) rfl h (fun h => ?_) (fun h => ?_)
  · refine lv_iconst hx hb dX12_lookedUp_32 (v := jI 0) rfl ?_
    refine lv_istore_n hx hb dX12_lookedUp_33 rfl hl (by decide) rfl (fun ls hl => ?_)
    have hl : lv_has ls 6 [(3, .int (jI 0)), (0, .ref (h0)), (1, .int (jI x1))] := hl
    exact b_lookedUp_34 X hRf hRl hret rx1 (by decide) hw (lv_sub hl [1, 2, 0] rfl) h
  · refine lv_iconst hx hb dX12_lookedUp_30 (v := jI 0) rfl ?_
    exact hret _ _ _ _ _ _ (by decide) h hw dX12_lookedUp_31

def w_lookedUp (a0 : Int) (a1 : Int) (Q : Int → iST → Prop) (u : iST) : Prop :=
  w_isInContext a0 (fun v1 u => 
  br (v1 = 0) (
    w_lookedUp_22 Q a0 u) (
    br (a1 ≠ 0) (
      Q 1 u) (
      w_isBoolean a0 (fun v15 u => 
      br (v15 = 0) (
        w_lookedUp_22 Q a0 u) (
        Q 1 u)) u))) u
set_option maxRecDepth 20000 in
set_option maxHeartbeats 4000000 in
theorem b_lookedUp_s (X : kX p m c cX12_lookedUp 6 s args D ca) (hRf : 3 ≤ R.frames) (hRl : 65 ≤ R.locals) {Q : Int → iST → Prop} (hret : ∀ (v : Int) (u : iST) (H : Heap) (locs : List Loc) (ls : Array Slot) (pc : Nat), inR v → Q v u → kW D ca A h0 ad H0 H locs u → decode cX12_lookedUp pc = .ok (.ireturn, 1) → W p l e R s m args below meth c H locs 0 0 Qf (F0 m pc ls [.int (jI v)])) {a0 a1 : Int} (ra0 : inR a0) (ra1 : inR a1) (hw : kW D ca A h0 ad H0 H locs u) (hl : lv_has ls 6 [(0, .ref h0), (1, .int (jI a0)), (2, .int (jI a1))]) (h : w_lookedUp a0 a1 Q u) : W p l e R s m args below meth c H locs 0 0 Qf (F0 m 0 ls []) := by
  have hx := X.1.1
  have hb := X.1.2.1
  unfold w_lookedUp at h
  refine lv_aload_n hx hb dX12_lookedUp_0 rfl (lv_at hl 0 rfl) ?_
  refine lv_iload_n hx hb dX12_lookedUp_1 rfl (lv_at hl 1 rfl) ?_
  refine kcI (n := 1) (c_isInContext ra0 h) G_isInContext E_isInContext X hw (Nat.le_trans (Nat.le_of_ble_eq_true rfl) hRf) (Nat.le_trans (Nat.le_of_ble_eq_true rfl) hRl) rfl hl.1 (Nat.le_of_ble_eq_true rfl) rfl dX12_lookedUp_2 (fun v1 u H locs rv1 h hw => ?_)
  refine k_if_eq hx hb rv1 dX12_lookedUp_5 (tgt := 22) rfl h (fun h => ?_) (fun h => ?_)
  · exact b_lookedUp_22 X hRf hRl hret ra0 hw (lv_sub hl [0, 1] rfl) h
  · refine lv_iload_n hx hb dX12_lookedUp_8 rfl (lv_at hl 2 rfl) ?_
    refine k_if_ne hx hb ra1 dX12_lookedUp_9 (tgt := 20) rfl h (fun h => ?_) (fun h => ?_)
    · refine lv_iconst hx hb dX12_lookedUp_20 (v := jI 1) rfl ?_
      exact hret _ _ _ _ _ _ (by decide) h hw dX12_lookedUp_21
    · refine lv_aload_n hx hb dX12_lookedUp_12 rfl (lv_at hl 0 rfl) ?_
      refine lv_iload_n hx hb dX12_lookedUp_13 rfl (lv_at hl 1 rfl) ?_
      refine kcI (n := 1) (c_isBoolean ra0 h) G_isBoolean E_isBoolean X hw (Nat.le_trans (Nat.le_of_ble_eq_true rfl) hRf) (Nat.le_trans (Nat.le_of_ble_eq_true rfl) hRl) rfl hl.1 (Nat.le_of_ble_eq_true rfl) rfl dX12_lookedUp_14 (fun v15 u H locs rv15 h hw => ?_)
      refine k_if_eq hx hb rv15 dX12_lookedUp_17 (tgt := 22) rfl h (fun h => ?_) (fun h => ?_)
      · exact b_lookedUp_22 X hRf hRl hret ra0 hw (lv_sub hl [0, 1] rfl) h
      · refine lv_iconst hx hb dX12_lookedUp_20 (v := jI 1) rfl ?_
        exact hret _ _ _ _ _ _ (by decide) h hw dX12_lookedUp_21

end
theorem c_lookedUp {l : Launch} {a0 : Int} {a1 : Int} (ra0 : inR a0) (ra1 : inR a1) {Q : Int → iST → Prop} {u : iST} (h : w_lookedUp a0 a1 Q u) : kMI l yX12_lookedUp (.code yX12_lookedUp cX12_lookedUp 6 (some .int) :: wsM) { frames := 3, cells := 0, slots := 0, locals := 65 } [.int (jI a0), .int (jI a1)] Q u := kMI_of rfl (fun _ => Nat.le_of_ble_eq_true rfl) (fun X hRf hRl hret hw hl => b_lookedUp_s X hRf hRl hret ra0 ra1 hw hl h)

/-! areConstants -/
theorem dX12_areConstants_0 : decode cX12_areConstants 0 = .ok (.aload_n 0, 1) := by decide +kernel
theorem dX12_areConstants_1 : decode cX12_areConstants 1 = .ok (.getfield 14, 3) := by decide +kernel
theorem dX12_areConstants_4 : decode cX12_areConstants 4 = .ok (.iload_n 1, 1) := by decide +kernel
theorem dX12_areConstants_5 : decode cX12_areConstants 5 = .ok (.iaload, 1) := by decide +kernel
theorem dX12_areConstants_6 : decode cX12_areConstants 6 = .ok (.istore_n 2, 1) := by decide +kernel
theorem dX12_areConstants_7 : decode cX12_areConstants 7 = .ok (.iload_n 2, 1) := by decide +kernel
theorem dX12_areConstants_8 : decode cX12_areConstants 8 = .ok (.ifCond .eq 28, 3) := by decide +kernel
theorem dX12_areConstants_11 : decode cX12_areConstants 11 = .ok (.aload_n 0, 1) := by decide +kernel
theorem dX12_areConstants_12 : decode cX12_areConstants 12 = .ok (.aload_n 0, 1) := by decide +kernel
theorem dX12_areConstants_13 : decode cX12_areConstants 13 = .ok (.getfield 8, 3) := by decide +kernel
theorem dX12_areConstants_16 : decode cX12_areConstants 16 = .ok (.iload_n 2, 1) := by decide +kernel
theorem dX12_areConstants_17 : decode cX12_areConstants 17 = .ok (.iaload, 1) := by decide +kernel
theorem dX12_areConstants_18 : decode cX12_areConstants 18 = .ok (.invokevirtual 546, 3) := by decide +kernel
theorem dX12_areConstants_21 : decode cX12_areConstants 21 = .ok (.ifCond .ne 5, 3) := by decide +kernel
theorem dX12_areConstants_24 : decode cX12_areConstants 24 = .ok (.iconst 0, 1) := by decide +kernel
theorem dX12_areConstants_25 : decode cX12_areConstants 25 = .ok (.ireturn, 1) := by decide +kernel
theorem dX12_areConstants_26 : decode cX12_areConstants 26 = .ok (.aload_n 0, 1) := by decide +kernel
theorem dX12_areConstants_27 : decode cX12_areConstants 27 = .ok (.getfield 14, 3) := by decide +kernel
theorem dX12_areConstants_30 : decode cX12_areConstants 30 = .ok (.iload_n 2, 1) := by decide +kernel
theorem dX12_areConstants_31 : decode cX12_areConstants 31 = .ok (.iaload, 1) := by decide +kernel
theorem dX12_areConstants_32 : decode cX12_areConstants 32 = .ok (.istore_n 2, 1) := by decide +kernel
theorem dX12_areConstants_33 : decode cX12_areConstants 33 = .ok (.goto (-26), 3) := by decide +kernel
theorem dX12_areConstants_36 : decode cX12_areConstants 36 = .ok (.iconst 1, 1) := by decide +kernel
theorem dX12_areConstants_37 : decode cX12_areConstants 37 = .ok (.ireturn, 1) := by decide +kernel

section
variable {p : Program} {l : Launch} {e : Env} {R : Room} {s : State} {m : MethodId} {args : Array Value} {below : List Frame} {meth : Method} {c : Code} {H : Heap} {locs : List Loc} {Qf : State → Prop}
variable {ls : Array Slot} {D : va_G} {ca : Nat → ClassId} {A : Nat → Prop} {h0 : Nat} {ad : Nat → Nat} {H0 : Heap} {u : iST}
def w_areConstants_7b (R7 : Int → iST → Prop) (Q : Int → iST → Prop) (x2 : Int) (u : iST) : Prop :=
  br (x2 = 0) (
    zt 1 (Q 1 u)) (
    bd x2 452000 (rd (u.2.1 0 x2) (fun v2 => 
    w_isConstant v2 (fun v3 u => 
    br (v3 ≠ 0) (
      bd x2 452000 (rd (u.2.1 1 x2) (fun v4 => 
      R7 v4 u))) (
      zt 0 (Q 0 u))) u)))
def w_areConstants_7 (Q : Int → iST → Prop) (x2 : Int) (u : iST) : Prop := ∀ R7 : Int → iST → Prop, (∀ (x2 : Int) (u : iST), w_areConstants_7b R7 Q x2 u → R7 x2 u) → R7 x2 u
set_option maxRecDepth 20000 in
set_option maxHeartbeats 4000000 in
theorem b_areConstants_7 (X : kX p m c cX12_areConstants 3 s args D ca) (hRf : 3 ≤ R.frames) (hRl : 63 ≤ R.locals) {Q : Int → iST → Prop} (hret : ∀ (v : Int) (u : iST) (H : Heap) (locs : List Loc) (ls : Array Slot) (pc : Nat), bz v → Q v u → kW D ca A h0 ad H0 H locs u → decode cX12_areConstants pc = .ok (.ireturn, 1) → W p l e R s m args below meth c H locs 0 0 Qf (F0 m pc ls [.int (jI v)])) {x2 : Int} (rx2 : inR x2) (hw : kW D ca A h0 ad H0 H locs u) (hl : lv_has ls 3 [(0, .ref h0), (2, .int (jI x2))]) (h : w_areConstants_7 Q x2 u) : W p l e R s m args below meth c H locs 0 0 Qf (F0 m 7 ls []) := by
  refine h (fun x2 u => ∀ (H : Heap) (locs : List Loc) (ls : Array Slot), inR x2 → kW D ca A h0 ad H0 H locs u → lv_has ls 3 [(0, .ref h0), (2, .int (jI x2))] → W p l e R s m args below meth c H locs 0 0 Qf (F0 m 7 ls [])) ?_ H locs ls rx2 hw hl
  clear h hl hw rx2
  intro x2 u h H locs ls rx2 hw hl
  have hR7 : ∀ (x2 : Int) (u : iST) (H : Heap) (locs : List Loc) (ls : Array Slot), inR x2 → kW D ca A h0 ad H0 H locs u → lv_has ls 3 [(0, .ref h0), (2, .int (jI x2))] → (fun (x2 : Int) u => ∀ (H : Heap) (locs : List Loc) (ls : Array Slot), inR x2 → kW D ca A h0 ad H0 H locs u → lv_has ls 3 [(0, .ref h0), (2, .int (jI x2))] → W p l e R s m args below meth c H locs 0 0 Qf (F0 m 7 ls [])) x2 u → W p l e R s m args below meth c H locs 0 0 Qf (F0 m 7 ls []) := fun x2 u H locs ls rx2 hw hl h => h H locs ls rx2 hw hl
  have hx := X.1.1
  have hb := X.1.2.1
  unfold w_areConstants_7b at h
  refine lv_iload_n hx hb dX12_areConstants_7 rfl (lv_at hl 1 rfl) ?_
  refine k_if_eq hx hb rx2 dX12_areConstants_8 (tgt := 36) rfl h (fun h => ?_) (fun h => ?_)
  · refine lv_iconst hx hb dX12_areConstants_36 (v := jI 1) rfl ?_
    exact hret _ _ _ _ _ _ h.1 h.2 hw dX12_areConstants_37
  · refine lv_aload_n hx hb dX12_areConstants_11 rfl (lv_at hl 0 rfl) ?_
    refine lv_aload_n hx hb dX12_areConstants_12 rfl (lv_at hl 0 rfl) ?_
    refine gA 0 8 (by decide) L_0 (fun _ _ => mF_0) rfl X hw dX12_areConstants_13 ?_
    refine lv_iload_n hx hb dX12_areConstants_16 rfl (lv_at hl 1 rfl) ?_
    refine aL 0 1 0 452000 (fun _ _ _ _ => mG_0) (fun _ => rfl) X hw rx2 dX12_areConstants_17 rfl h (fun v2 rv2 h => ?_)
    refine kcI (n := 1) (c_isConstant rv2 h) G_isConstant E_isConstant X hw (Nat.le_trans (Nat.le_of_ble_eq_true rfl) hRf) (Nat.le_trans (Nat.le_of_ble_eq_true rfl) hRl) rfl hl.1 (Nat.le_of_ble_eq_true rfl) rfl dX12_areConstants_18 (fun v3 u H locs rv3 h hw => ?_)
    refine k_if_ne hx hb rv3 dX12_areConstants_21 (tgt := 26) rfl h (fun h => ?_) (fun h => ?_)
    · refine lv_aload_n hx hb dX12_areConstants_26 rfl (lv_at hl 0 rfl) ?_
      refine gA 1 14 (by decide) L_1 (fun _ _ => mF_1) rfl X hw dX12_areConstants_27 ?_
      refine lv_iload_n hx hb dX12_areConstants_30 rfl (lv_at hl 1 rfl) ?_
      refine aL 1 2 1 452000 (fun _ _ _ _ => mG_1) (fun _ => rfl) X hw rx2 dX12_areConstants_31 rfl h (fun v4 rv4 h => ?_)
      refine lv_istore_n hx hb dX12_areConstants_32 rfl hl (by decide) rfl (fun ls hl => ?_)
      have hl : lv_has ls 3 [(2, .int (jI v4)), (0, .ref (h0))] := hl
      refine lv_goto hx hb dX12_areConstants_33 (tgt := 7) rfl ?_
      exact hR7 _ _ H locs ls rv4 hw (lv_sub hl [1, 0] rfl) h
    · refine lv_iconst hx hb dX12_areConstants_24 (v := jI 0) rfl ?_
      exact hret _ _ _ _ _ _ h.1 h.2 hw dX12_areConstants_25

def w_areConstants (a0 : Int) (Q : Int → iST → Prop) (u : iST) : Prop :=
  bd a0 452000 (rd (u.2.1 1 a0) (fun v1 => 
  w_areConstants_7 Q v1 u))
set_option maxRecDepth 20000 in
set_option maxHeartbeats 4000000 in
theorem b_areConstants_s (X : kX p m c cX12_areConstants 3 s args D ca) (hRf : 3 ≤ R.frames) (hRl : 63 ≤ R.locals) {Q : Int → iST → Prop} (hret : ∀ (v : Int) (u : iST) (H : Heap) (locs : List Loc) (ls : Array Slot) (pc : Nat), bz v → Q v u → kW D ca A h0 ad H0 H locs u → decode cX12_areConstants pc = .ok (.ireturn, 1) → W p l e R s m args below meth c H locs 0 0 Qf (F0 m pc ls [.int (jI v)])) {a0 : Int} (ra0 : inR a0) (hw : kW D ca A h0 ad H0 H locs u) (hl : lv_has ls 3 [(0, .ref h0), (1, .int (jI a0))]) (h : w_areConstants a0 Q u) : W p l e R s m args below meth c H locs 0 0 Qf (F0 m 0 ls []) := by
  have hx := X.1.1
  have hb := X.1.2.1
  unfold w_areConstants at h
  refine lv_aload_n hx hb dX12_areConstants_0 rfl (lv_at hl 0 rfl) ?_
  refine gA 1 14 (by decide) L_1 (fun _ _ => mF_1) rfl X hw dX12_areConstants_1 ?_
  refine lv_iload_n hx hb dX12_areConstants_4 rfl (lv_at hl 1 rfl) ?_
  refine aL 1 2 1 452000 (fun _ _ _ _ => mG_1) (fun _ => rfl) X hw ra0 dX12_areConstants_5 rfl h (fun v1 rv1 h => ?_)
  refine lv_istore_n hx hb dX12_areConstants_6 rfl hl (by decide) rfl (fun ls hl => ?_)
  have hl : lv_has ls 3 [(2, .int (jI v1)), (0, .ref (h0)), (1, .int (jI a0))] := hl
  exact b_areConstants_7 X hRf hRl hret rv1 hw (lv_sub hl [1, 0] rfl) h

end
theorem c_areConstants {l : Launch} {a0 : Int} (ra0 : inR a0) {Q : Int → iST → Prop} {u : iST} (h : w_areConstants a0 Q u) : kMI l yX12_areConstants (.code yX12_areConstants cX12_areConstants 3 (some .boolean) :: wsM) { frames := 3, cells := 0, slots := 0, locals := 63 } [.int (jI a0)] Q u := kMZ_of rfl (fun _ => Nat.le_of_ble_eq_true rfl) (fun X hRf hRl hret hw hl => b_areConstants_s X hRf hRl hret ra0 hw hl h)

/-! constantValue -/
theorem dX12_constantValue_0 : decode cX12_constantValue 0 = .ok (.aload_n 0, 1) := by decide +kernel
theorem dX12_constantValue_1 : decode cX12_constantValue 1 = .ok (.iconst 0, 1) := by decide +kernel
theorem dX12_constantValue_2 : decode cX12_constantValue 2 = .ok (.putfield 582, 3) := by decide +kernel
theorem dX12_constantValue_5 : decode cX12_constantValue 5 = .ok (.aload_n 0, 1) := by decide +kernel
theorem dX12_constantValue_6 : decode cX12_constantValue 6 = .ok (.getfield 14, 3) := by decide +kernel
theorem dX12_constantValue_9 : decode cX12_constantValue 9 = .ok (.iload_n 1, 1) := by decide +kernel
theorem dX12_constantValue_10 : decode cX12_constantValue 10 = .ok (.iaload, 1) := by decide +kernel
theorem dX12_constantValue_11 : decode cX12_constantValue 11 = .ok (.istore_n 3, 1) := by decide +kernel
theorem dX12_constantValue_12 : decode cX12_constantValue 12 = .ok (.iload_n 3, 1) := by decide +kernel
theorem dX12_constantValue_13 : decode cX12_constantValue 13 = .ok (.ifCond .eq 42, 3) := by decide +kernel
theorem dX12_constantValue_16 : decode cX12_constantValue 16 = .ok (.aload_n 0, 1) := by decide +kernel
theorem dX12_constantValue_17 : decode cX12_constantValue 17 = .ok (.getfield 187, 3) := by decide +kernel
theorem dX12_constantValue_20 : decode cX12_constantValue 20 = .ok (.aload_n 0, 1) := by decide +kernel
theorem dX12_constantValue_21 : decode cX12_constantValue 21 = .ok (.getfield 582, 3) := by decide +kernel
theorem dX12_constantValue_24 : decode cX12_constantValue 24 = .ok (.aload_n 0, 1) := by decide +kernel
theorem dX12_constantValue_25 : decode cX12_constantValue 25 = .ok (.aload_n 0, 1) := by decide +kernel
theorem dX12_constantValue_26 : decode cX12_constantValue 26 = .ok (.getfield 8, 3) := by decide +kernel
theorem dX12_constantValue_29 : decode cX12_constantValue 29 = .ok (.iload_n 3, 1) := by decide +kernel
theorem dX12_constantValue_30 : decode cX12_constantValue 30 = .ok (.iaload, 1) := by decide +kernel
theorem dX12_constantValue_31 : decode cX12_constantValue 31 = .ok (.invokevirtual 567, 3) := by decide +kernel
theorem dX12_constantValue_34 : decode cX12_constantValue 34 = .ok (.iastore, 1) := by decide +kernel
theorem dX12_constantValue_35 : decode cX12_constantValue 35 = .ok (.aload_n 0, 1) := by decide +kernel
theorem dX12_constantValue_36 : decode cX12_constantValue 36 = .ok (.dup, 1) := by decide +kernel
theorem dX12_constantValue_37 : decode cX12_constantValue 37 = .ok (.getfield 582, 3) := by decide +kernel
theorem dX12_constantValue_40 : decode cX12_constantValue 40 = .ok (.iconst 1, 1) := by decide +kernel
theorem dX12_constantValue_41 : decode cX12_constantValue 41 = .ok (.iadd, 1) := by decide +kernel
theorem dX12_constantValue_42 : decode cX12_constantValue 42 = .ok (.putfield 582, 3) := by decide +kernel
theorem dX12_constantValue_45 : decode cX12_constantValue 45 = .ok (.aload_n 0, 1) := by decide +kernel
theorem dX12_constantValue_46 : decode cX12_constantValue 46 = .ok (.getfield 14, 3) := by decide +kernel
theorem dX12_constantValue_49 : decode cX12_constantValue 49 = .ok (.iload_n 3, 1) := by decide +kernel
theorem dX12_constantValue_50 : decode cX12_constantValue 50 = .ok (.iaload, 1) := by decide +kernel
theorem dX12_constantValue_51 : decode cX12_constantValue 51 = .ok (.istore_n 3, 1) := by decide +kernel
theorem dX12_constantValue_52 : decode cX12_constantValue 52 = .ok (.goto (-40), 3) := by decide +kernel
theorem dX12_constantValue_55 : decode cX12_constantValue 55 = .ok (.aload_n 0, 1) := by decide +kernel
theorem dX12_constantValue_56 : decode cX12_constantValue 56 = .ok (.iload_n 2, 1) := by decide +kernel
theorem dX12_constantValue_57 : decode cX12_constantValue 57 = .ok (.iconst 0, 1) := by decide +kernel
theorem dX12_constantValue_58 : decode cX12_constantValue 58 = .ok (.invokevirtual 599, 3) := by decide +kernel
theorem dX12_constantValue_61 : decode cX12_constantValue 61 = .ok (.ireturn, 1) := by decide +kernel

section
variable {p : Program} {l : Launch} {e : Env} {R : Room} {s : State} {m : MethodId} {args : Array Value} {below : List Frame} {meth : Method} {c : Code} {H : Heap} {locs : List Loc} {Qf : State → Prop}
variable {ls : Array Slot} {D : va_G} {ca : Nat → ClassId} {A : Nat → Prop} {h0 : Nat} {ad : Nat → Nat} {H0 : Heap} {u : iST}
def w_constantValue_12b (R12 : Int → Int → iST → Prop) (Q : Int → iST → Prop) (x2 : Int) (x3 : Int) (u : iST) : Prop :=
  br (x3 = 0) (
    w_basic x2 0 (fun v2 u => 
    Q v2 u) u) (
    rd (u.1 87) (fun v3 => 
    bd x3 452000 (rd (u.2.1 0 x3) (fun v4 => 
    w_valueOf v4 (fun v5 u => 
    bd v3 2400 (sw (iA u 86 v3 v5) (fun u => 
    rd (u.1 87) (fun v6 => 
    ov (v6 + 1) (
    sw (iI u 87 (v6 + 1)) (fun u => 
    bd x3 452000 (rd (u.2.1 1 x3) (fun v8 => 
    R12 x2 v8 u)))))))) u))))
def w_constantValue_12 (Q : Int → iST → Prop) (x2 : Int) (x3 : Int) (u : iST) : Prop := ∀ R12 : Int → Int → iST → Prop, (∀ (x2 : Int) (x3 : Int) (u : iST), w_constantValue_12b R12 Q x2 x3 u → R12 x2 x3 u) → R12 x2 x3 u
set_option maxRecDepth 20000 in
set_option maxHeartbeats 4000000 in
theorem b_constantValue_12 (X : kX p m c cX12_constantValue 4 s args D ca) (hRf : 3 ≤ R.frames) (hRl : 71 ≤ R.locals) {Q : Int → iST → Prop} (hret : ∀ (v : Int) (u : iST) (H : Heap) (locs : List Loc) (ls : Array Slot) (pc : Nat), inR v → Q v u → kW D ca A h0 ad H0 H locs u → decode cX12_constantValue pc = .ok (.ireturn, 1) → W p l e R s m args below meth c H locs 0 0 Qf (F0 m pc ls [.int (jI v)])) {x2 x3 : Int} (rx2 : inR x2) (rx3 : inR x3) (hw : kW D ca A h0 ad H0 H locs u) (hl : lv_has ls 4 [(0, .ref h0), (2, .int (jI x2)), (3, .int (jI x3))]) (h : w_constantValue_12 Q x2 x3 u) : W p l e R s m args below meth c H locs 0 0 Qf (F0 m 12 ls []) := by
  refine h (fun x2 x3 u => ∀ (H : Heap) (locs : List Loc) (ls : Array Slot), inR x2 → inR x3 → kW D ca A h0 ad H0 H locs u → lv_has ls 4 [(0, .ref h0), (2, .int (jI x2)), (3, .int (jI x3))] → W p l e R s m args below meth c H locs 0 0 Qf (F0 m 12 ls [])) ?_ H locs ls rx2 rx3 hw hl
  clear h hl hw rx2 rx3
  intro x2 x3 u h H locs ls rx2 rx3 hw hl
  have hR12 : ∀ (x2 : Int) (x3 : Int) (u : iST) (H : Heap) (locs : List Loc) (ls : Array Slot), inR x2 → inR x3 → kW D ca A h0 ad H0 H locs u → lv_has ls 4 [(0, .ref h0), (2, .int (jI x2)), (3, .int (jI x3))] → (fun (x2 : Int) (x3 : Int) u => ∀ (H : Heap) (locs : List Loc) (ls : Array Slot), inR x2 → inR x3 → kW D ca A h0 ad H0 H locs u → lv_has ls 4 [(0, .ref h0), (2, .int (jI x2)), (3, .int (jI x3))] → W p l e R s m args below meth c H locs 0 0 Qf (F0 m 12 ls [])) x2 x3 u → W p l e R s m args below meth c H locs 0 0 Qf (F0 m 12 ls []) := fun x2 x3 u H locs ls rx2 rx3 hw hl h => h H locs ls rx2 rx3 hw hl
  have hx := X.1.1
  have hb := X.1.2.1
  unfold w_constantValue_12b at h
  refine lv_iload_n hx hb dX12_constantValue_12 rfl (lv_at hl 2 rfl) ?_
  refine k_if_eq hx hb rx3 dX12_constantValue_13 (tgt := 55) rfl h (fun h => ?_) (fun h => ?_)
  · refine lv_aload_n hx hb dX12_constantValue_55 rfl (lv_at hl 0 rfl) ?_
    refine lv_iload_n hx hb dX12_constantValue_56 rfl (lv_at hl 1 rfl) ?_
    refine lv_iconst hx hb dX12_constantValue_57 (v := jI 0) rfl ?_
    refine kcI (n := 2) (c_basic rx2 (by decide) h) G_basic E_basic X hw (Nat.le_trans (Nat.le_of_ble_eq_true rfl) hRf) (Nat.le_trans (Nat.le_of_ble_eq_true rfl) hRl) rfl hl.1 (Nat.le_of_ble_eq_true rfl) rfl dX12_constantValue_58 (fun v2 u H locs rv2 h hw => ?_)
    exact hret _ _ _ _ _ _ rv2 h hw dX12_constantValue_61
  · refine lv_aload_n hx hb dX12_constantValue_16 rfl (lv_at hl 0 rfl) ?_
    refine gA 86 187 (by decide) L_86 (fun _ _ => mF_86) rfl X hw dX12_constantValue_17 ?_
    refine lv_aload_n hx hb dX12_constantValue_20 rfl (lv_at hl 0 rfl) ?_
    refine gS 87 582 (by decide) L_87 (fun _ _ => mF_87) rfl X hw dX12_constantValue_21 h (fun v3 rv3 h => ?_)
    refine lv_aload_n hx hb dX12_constantValue_24 rfl (lv_at hl 0 rfl) ?_
    refine lv_aload_n hx hb dX12_constantValue_25 rfl (lv_at hl 0 rfl) ?_
    refine gA 0 8 (by decide) L_0 (fun _ _ => mF_0) rfl X hw dX12_constantValue_26 ?_
    refine lv_iload_n hx hb dX12_constantValue_29 rfl (lv_at hl 2 rfl) ?_
    refine aL 0 1 0 452000 (fun _ _ _ _ => mG_0) (fun _ => rfl) X hw rx3 dX12_constantValue_30 rfl h (fun v4 rv4 h => ?_)
    refine kcI (n := 1) (c_valueOf rv4 h) G_valueOf E_valueOf X hw (Nat.le_trans (Nat.le_of_ble_eq_true rfl) hRf) (Nat.le_trans (Nat.le_of_ble_eq_true rfl) hRl) rfl hl.1 (Nat.le_of_ble_eq_true rfl) rfl dX12_constantValue_31 (fun v5 u H locs rv5 h hw => ?_)
    refine aS 86 55 54 2400 (fun _ _ _ _ => mG_86) (fun _ => rfl) (fun _ _ _ _ _ _ => mSA_86) (by decide) X hw rv3 rv5 dX12_constantValue_34 rfl h (fun H locs u hw h => ?_)
    refine lv_aload_n hx hb dX12_constantValue_35 rfl (lv_at hl 0 rfl) ?_
    refine lv_dup hx hb dX12_constantValue_36 rfl ?_
    refine gS 87 582 (by decide) L_87 (fun _ _ => mF_87) rfl X hw dX12_constantValue_37 h (fun v6 rv6 h => ?_)
    refine lv_iconst hx hb dX12_constantValue_40 (v := jI 1) rfl ?_
    refine k_iadd hx hb dX12_constantValue_41 h (fun r7 h => ?_)
    refine pS 87 582 (by decide) L_87 rfl rfl rfl (fun _ _ _ _ _ => mSI_87) (by decide) X hw r7 dX12_constantValue_42 h (fun H locs u hw h => ?_)
    refine lv_aload_n hx hb dX12_constantValue_45 rfl (lv_at hl 0 rfl) ?_
    refine gA 1 14 (by decide) L_1 (fun _ _ => mF_1) rfl X hw dX12_constantValue_46 ?_
    refine lv_iload_n hx hb dX12_constantValue_49 rfl (lv_at hl 2 rfl) ?_
    refine aL 1 2 1 452000 (fun _ _ _ _ => mG_1) (fun _ => rfl) X hw rx3 dX12_constantValue_50 rfl h (fun v8 rv8 h => ?_)
    refine lv_istore_n hx hb dX12_constantValue_51 rfl hl (by decide) rfl (fun ls hl => ?_)
    have hl : lv_has ls 4 [(3, .int (jI v8)), (0, .ref (h0)), (2, .int (jI x2))] := hl
    refine lv_goto hx hb dX12_constantValue_52 (tgt := 12) rfl ?_
    exact hR12 _ _ _ H locs ls rx2 rv8 hw (lv_sub hl [1, 2, 0] rfl) h

def w_constantValue (a0 : Int) (a1 : Int) (Q : Int → iST → Prop) (u : iST) : Prop :=
  sw (iI u 87 0) (fun u => 
  bd a0 452000 (rd (u.2.1 1 a0) (fun v1 => 
  w_constantValue_12 Q a1 v1 u)))
set_option maxRecDepth 20000 in
set_option maxHeartbeats 4000000 in
theorem b_constantValue_s (X : kX p m c cX12_constantValue 4 s args D ca) (hRf : 3 ≤ R.frames) (hRl : 71 ≤ R.locals) {Q : Int → iST → Prop} (hret : ∀ (v : Int) (u : iST) (H : Heap) (locs : List Loc) (ls : Array Slot) (pc : Nat), inR v → Q v u → kW D ca A h0 ad H0 H locs u → decode cX12_constantValue pc = .ok (.ireturn, 1) → W p l e R s m args below meth c H locs 0 0 Qf (F0 m pc ls [.int (jI v)])) {a0 a1 : Int} (ra0 : inR a0) (ra1 : inR a1) (hw : kW D ca A h0 ad H0 H locs u) (hl : lv_has ls 4 [(0, .ref h0), (1, .int (jI a0)), (2, .int (jI a1))]) (h : w_constantValue a0 a1 Q u) : W p l e R s m args below meth c H locs 0 0 Qf (F0 m 0 ls []) := by
  have hx := X.1.1
  have hb := X.1.2.1
  unfold w_constantValue at h
  refine lv_aload_n hx hb dX12_constantValue_0 rfl (lv_at hl 0 rfl) ?_
  refine lv_iconst hx hb dX12_constantValue_1 (v := jI 0) rfl ?_
  refine pS 87 582 (by decide) L_87 rfl rfl rfl (fun _ _ _ _ _ => mSI_87) (by decide) X hw (by decide) dX12_constantValue_2 h (fun H locs u hw h => ?_)
  refine lv_aload_n hx hb dX12_constantValue_5 rfl (lv_at hl 0 rfl) ?_
  refine gA 1 14 (by decide) L_1 (fun _ _ => mF_1) rfl X hw dX12_constantValue_6 ?_
  refine lv_iload_n hx hb dX12_constantValue_9 rfl (lv_at hl 1 rfl) ?_
  refine aL 1 2 1 452000 (fun _ _ _ _ => mG_1) (fun _ => rfl) X hw ra0 dX12_constantValue_10 rfl h (fun v1 rv1 h => ?_)
  refine lv_istore_n hx hb dX12_constantValue_11 rfl hl (by decide) rfl (fun ls hl => ?_)
  have hl : lv_has ls 4 [(3, .int (jI v1)), (0, .ref (h0)), (1, .int (jI a0)), (2, .int (jI a1))] := hl
  exact b_constantValue_12 X hRf hRl hret ra1 rv1 hw (lv_sub hl [1, 3, 0] rfl) h

end
theorem c_constantValue {l : Launch} {a0 : Int} {a1 : Int} (ra0 : inR a0) (ra1 : inR a1) {Q : Int → iST → Prop} {u : iST} (h : w_constantValue a0 a1 Q u) : kMI l yX12_constantValue (.code yX12_constantValue cX12_constantValue 4 (some .int) :: wsM) { frames := 3, cells := 0, slots := 0, locals := 71 } [.int (jI a0), .int (jI a1)] Q u := kMI_of rfl (fun _ => Nat.le_of_ble_eq_true rfl) (fun X hRf hRl hret hw hl => b_constantValue_s X hRf hRl hret ra0 ra1 hw hl h)

/-! isNumbered -/
theorem dX12_isNumbered_0 : decode cX12_isNumbered 0 = .ok (.aload_n 0, 1) := by decide +kernel
theorem dX12_isNumbered_1 : decode cX12_isNumbered 1 = .ok (.iload_n 1, 1) := by decide +kernel
theorem dX12_isNumbered_2 : decode cX12_isNumbered 2 = .ok (.bipush 7, 2) := by decide +kernel
theorem dX12_isNumbered_4 : decode cX12_isNumbered 4 = .ok (.invokevirtual 542, 3) := by decide +kernel
theorem dX12_isNumbered_7 : decode cX12_isNumbered 7 = .ok (.ifCond .ne 23, 3) := by decide +kernel
theorem dX12_isNumbered_10 : decode cX12_isNumbered 10 = .ok (.aload_n 0, 1) := by decide +kernel
theorem dX12_isNumbered_11 : decode cX12_isNumbered 11 = .ok (.iload_n 1, 1) := by decide +kernel
theorem dX12_isNumbered_12 : decode cX12_isNumbered 12 = .ok (.bipush 8, 2) := by decide +kernel
theorem dX12_isNumbered_14 : decode cX12_isNumbered 14 = .ok (.invokevirtual 542, 3) := by decide +kernel
theorem dX12_isNumbered_17 : decode cX12_isNumbered 17 = .ok (.ifCond .ne 13, 3) := by decide +kernel
theorem dX12_isNumbered_20 : decode cX12_isNumbered 20 = .ok (.aload_n 0, 1) := by decide +kernel
theorem dX12_isNumbered_21 : decode cX12_isNumbered 21 = .ok (.iload_n 1, 1) := by decide +kernel
theorem dX12_isNumbered_22 : decode cX12_isNumbered 22 = .ok (.bipush 16, 2) := by decide +kernel
theorem dX12_isNumbered_24 : decode cX12_isNumbered 24 = .ok (.invokevirtual 542, 3) := by decide +kernel
theorem dX12_isNumbered_27 : decode cX12_isNumbered 27 = .ok (.ifCond .eq 7, 3) := by decide +kernel
theorem dX12_isNumbered_30 : decode cX12_isNumbered 30 = .ok (.iconst 1, 1) := by decide +kernel
theorem dX12_isNumbered_31 : decode cX12_isNumbered 31 = .ok (.goto 4, 3) := by decide +kernel
theorem dX12_isNumbered_34 : decode cX12_isNumbered 34 = .ok (.iconst 0, 1) := by decide +kernel
theorem dX12_isNumbered_35 : decode cX12_isNumbered 35 = .ok (.ireturn, 1) := by decide +kernel

section
variable {p : Program} {l : Launch} {e : Env} {R : Room} {s : State} {m : MethodId} {args : Array Value} {below : List Frame} {meth : Method} {c : Code} {H : Heap} {locs : List Loc} {Qf : State → Prop}
variable {ls : Array Slot} {D : va_G} {ca : Nat → ClassId} {A : Nat → Prop} {h0 : Nat} {ad : Nat → Nat} {H0 : Heap} {u : iST}
def w_isNumbered (a0 : Int) (Q : Int → iST → Prop) (u : iST) : Prop :=
  w_isCallOf a0 7 (fun v1 u => 
  br (v1 ≠ 0) (
    zt 1 (Q 1 u)) (
    w_isCallOf a0 8 (fun v2 u => 
    br (v2 ≠ 0) (
      zt 1 (Q 1 u)) (
      w_isCallOf a0 16 (fun v3 u => 
      br (v3 = 0) (
        zt 0 (Q 0 u)) (
        zt 1 (Q 1 u))) u)) u)) u
set_option maxRecDepth 20000 in
set_option maxHeartbeats 4000000 in
theorem b_isNumbered_s (X : kX p m c cX12_isNumbered 2 s args D ca) (hRf : 2 ≤ R.frames) (hRl : 43 ≤ R.locals) {Q : Int → iST → Prop} (hret : ∀ (v : Int) (u : iST) (H : Heap) (locs : List Loc) (ls : Array Slot) (pc : Nat), bz v → Q v u → kW D ca A h0 ad H0 H locs u → decode cX12_isNumbered pc = .ok (.ireturn, 1) → W p l e R s m args below meth c H locs 0 0 Qf (F0 m pc ls [.int (jI v)])) {a0 : Int} (ra0 : inR a0) (hw : kW D ca A h0 ad H0 H locs u) (hl : lv_has ls 2 [(0, .ref h0), (1, .int (jI a0))]) (h : w_isNumbered a0 Q u) : W p l e R s m args below meth c H locs 0 0 Qf (F0 m 0 ls []) := by
  have hx := X.1.1
  have hb := X.1.2.1
  unfold w_isNumbered at h
  refine lv_aload_n hx hb dX12_isNumbered_0 rfl (lv_at hl 0 rfl) ?_
  refine lv_iload_n hx hb dX12_isNumbered_1 rfl (lv_at hl 1 rfl) ?_
  refine lv_bipush hx hb dX12_isNumbered_2 (v := jI 7) rfl ?_
  refine kcI (n := 2) (c_isCallOf ra0 (by decide) h) G_isCallOf E_isCallOf X hw (Nat.le_trans (Nat.le_of_ble_eq_true rfl) hRf) (Nat.le_trans (Nat.le_of_ble_eq_true rfl) hRl) rfl hl.1 (Nat.le_of_ble_eq_true rfl) rfl dX12_isNumbered_4 (fun v1 u H locs rv1 h hw => ?_)
  refine k_if_ne hx hb rv1 dX12_isNumbered_7 (tgt := 30) rfl h (fun h => ?_) (fun h => ?_)
  · refine lv_iconst hx hb dX12_isNumbered_30 (v := jI 1) rfl ?_
    refine lv_goto hx hb dX12_isNumbered_31 (tgt := 35) rfl ?_
    exact hret _ _ _ _ _ _ h.1 h.2 hw dX12_isNumbered_35
  · refine lv_aload_n hx hb dX12_isNumbered_10 rfl (lv_at hl 0 rfl) ?_
    refine lv_iload_n hx hb dX12_isNumbered_11 rfl (lv_at hl 1 rfl) ?_
    refine lv_bipush hx hb dX12_isNumbered_12 (v := jI 8) rfl ?_
    refine kcI (n := 2) (c_isCallOf ra0 (by decide) h) G_isCallOf E_isCallOf X hw (Nat.le_trans (Nat.le_of_ble_eq_true rfl) hRf) (Nat.le_trans (Nat.le_of_ble_eq_true rfl) hRl) rfl hl.1 (Nat.le_of_ble_eq_true rfl) rfl dX12_isNumbered_14 (fun v2 u H locs rv2 h hw => ?_)
    refine k_if_ne hx hb rv2 dX12_isNumbered_17 (tgt := 30) rfl h (fun h => ?_) (fun h => ?_)
    · refine lv_iconst hx hb dX12_isNumbered_30 (v := jI 1) rfl ?_
      refine lv_goto hx hb dX12_isNumbered_31 (tgt := 35) rfl ?_
      exact hret _ _ _ _ _ _ h.1 h.2 hw dX12_isNumbered_35
    · refine lv_aload_n hx hb dX12_isNumbered_20 rfl (lv_at hl 0 rfl) ?_
      refine lv_iload_n hx hb dX12_isNumbered_21 rfl (lv_at hl 1 rfl) ?_
      refine lv_bipush hx hb dX12_isNumbered_22 (v := jI 16) rfl ?_
      refine kcI (n := 2) (c_isCallOf ra0 (by decide) h) G_isCallOf E_isCallOf X hw (Nat.le_trans (Nat.le_of_ble_eq_true rfl) hRf) (Nat.le_trans (Nat.le_of_ble_eq_true rfl) hRl) rfl hl.1 (Nat.le_of_ble_eq_true rfl) rfl dX12_isNumbered_24 (fun v3 u H locs rv3 h hw => ?_)
      refine k_if_eq hx hb rv3 dX12_isNumbered_27 (tgt := 34) rfl h (fun h => ?_) (fun h => ?_)
      · refine lv_iconst hx hb dX12_isNumbered_34 (v := jI 0) rfl ?_
        exact hret _ _ _ _ _ _ h.1 h.2 hw dX12_isNumbered_35
      · refine lv_iconst hx hb dX12_isNumbered_30 (v := jI 1) rfl ?_
        refine lv_goto hx hb dX12_isNumbered_31 (tgt := 35) rfl ?_
        exact hret _ _ _ _ _ _ h.1 h.2 hw dX12_isNumbered_35

end
theorem c_isNumbered {l : Launch} {a0 : Int} (ra0 : inR a0) {Q : Int → iST → Prop} {u : iST} (h : w_isNumbered a0 Q u) : kMI l yX12_isNumbered (.code yX12_isNumbered cX12_isNumbered 2 (some .boolean) :: wsM) { frames := 2, cells := 0, slots := 0, locals := 43 } [.int (jI a0)] Q u := kMZ_of rfl (fun _ => Nat.le_of_ble_eq_true rfl) (fun X hRf hRl hret hw hl => b_isNumbered_s X hRf hRl hret ra0 hw hl h)

/-! plain -/
theorem dX12_plain_0 : decode cX12_plain 0 = .ok (.aload_n 0, 1) := by decide +kernel
theorem dX12_plain_1 : decode cX12_plain 1 = .ok (.getfield 8, 3) := by decide +kernel
theorem dX12_plain_4 : decode cX12_plain 4 = .ok (.iload_n 1, 1) := by decide +kernel
theorem dX12_plain_5 : decode cX12_plain 5 = .ok (.iaload, 1) := by decide +kernel
theorem dX12_plain_6 : decode cX12_plain 6 = .ok (.istore_n 2, 1) := by decide +kernel
theorem dX12_plain_7 : decode cX12_plain 7 = .ok (.aload_n 0, 1) := by decide +kernel
theorem dX12_plain_8 : decode cX12_plain 8 = .ok (.iload_n 1, 1) := by decide +kernel
theorem dX12_plain_9 : decode cX12_plain 9 = .ok (.iconst 1, 1) := by decide +kernel
theorem dX12_plain_10 : decode cX12_plain 10 = .ok (.invokevirtual 592, 3) := by decide +kernel
theorem dX12_plain_13 : decode cX12_plain 13 = .ok (.istore_n 3, 1) := by decide +kernel
theorem dX12_plain_14 : decode cX12_plain 14 = .ok (.iload_n 2, 1) := by decide +kernel
theorem dX12_plain_15 : decode cX12_plain 15 = .ok (.iconst 4, 1) := by decide +kernel
theorem dX12_plain_16 : decode cX12_plain 16 = .ok (.if_icmp .lt 18, 3) := by decide +kernel
theorem dX12_plain_19 : decode cX12_plain 19 = .ok (.iload_n 2, 1) := by decide +kernel
theorem dX12_plain_20 : decode cX12_plain 20 = .ok (.bipush 9, 2) := by decide +kernel
theorem dX12_plain_22 : decode cX12_plain 22 = .ok (.if_icmp .gt 12, 3) := by decide +kernel
theorem dX12_plain_25 : decode cX12_plain 25 = .ok (.aload_n 0, 1) := by decide +kernel
theorem dX12_plain_26 : decode cX12_plain 26 = .ok (.iload_n 1, 1) := by decide +kernel
theorem dX12_plain_27 : decode cX12_plain 27 = .ok (.iconst 2, 1) := by decide +kernel
theorem dX12_plain_28 : decode cX12_plain 28 = .ok (.invokevirtual 592, 3) := by decide +kernel
theorem dX12_plain_31 : decode cX12_plain 31 = .ok (.goto 4, 3) := by decide +kernel
theorem dX12_plain_34 : decode cX12_plain 34 = .ok (.iconst (-1), 1) := by decide +kernel
theorem dX12_plain_35 : decode cX12_plain 35 = .ok (.istore 4, 2) := by decide +kernel
theorem dX12_plain_37 : decode cX12_plain 37 = .ok (.aload_n 0, 1) := by decide +kernel
theorem dX12_plain_38 : decode cX12_plain 38 = .ok (.iload_n 3, 1) := by decide +kernel
theorem dX12_plain_39 : decode cX12_plain 39 = .ok (.iconst 5, 1) := by decide +kernel
theorem dX12_plain_40 : decode cX12_plain 40 = .ok (.invokevirtual 542, 3) := by decide +kernel
theorem dX12_plain_43 : decode cX12_plain 43 = .ok (.istore 5, 2) := by decide +kernel
theorem dX12_plain_45 : decode cX12_plain 45 = .ok (.iload_n 2, 1) := by decide +kernel
theorem dX12_plain_46 : decode cX12_plain 46 = .ok (.tableswitch 270 4 14 #[58, 270, 270, 270, 270, 232, 167, 135, 151, 190, 213], 58) := by decide +kernel
theorem dX12_plain_104 : decode cX12_plain 104 = .ok (.iload_n 3, 1) := by decide +kernel
theorem dX12_plain_105 : decode cX12_plain 105 = .ok (.iload 4, 2) := by decide +kernel
theorem dX12_plain_107 : decode cX12_plain 107 = .ok (.if_icmp .ne 5, 3) := by decide +kernel
theorem dX12_plain_110 : decode cX12_plain 110 = .ok (.iconst 1, 1) := by decide +kernel
theorem dX12_plain_111 : decode cX12_plain 111 = .ok (.ireturn, 1) := by decide +kernel
theorem dX12_plain_112 : decode cX12_plain 112 = .ok (.aload_n 0, 1) := by decide +kernel
theorem dX12_plain_113 : decode cX12_plain 113 = .ok (.iload 4, 2) := by decide +kernel
theorem dX12_plain_115 : decode cX12_plain 115 = .ok (.iconst 5, 1) := by decide +kernel
theorem dX12_plain_116 : decode cX12_plain 116 = .ok (.invokevirtual 542, 3) := by decide +kernel
theorem dX12_plain_119 : decode cX12_plain 119 = .ok (.istore 6, 2) := by decide +kernel
theorem dX12_plain_121 : decode cX12_plain 121 = .ok (.iload 5, 2) := by decide +kernel
theorem dX12_plain_123 : decode cX12_plain 123 = .ok (.ifCond .eq 27, 3) := by decide +kernel
theorem dX12_plain_126 : decode cX12_plain 126 = .ok (.aload_n 0, 1) := by decide +kernel
theorem dX12_plain_127 : decode cX12_plain 127 = .ok (.iload 4, 2) := by decide +kernel
theorem dX12_plain_129 : decode cX12_plain 129 = .ok (.invokevirtual 546, 3) := by decide +kernel
theorem dX12_plain_132 : decode cX12_plain 132 = .ok (.ifCond .eq 18, 3) := by decide +kernel
theorem dX12_plain_135 : decode cX12_plain 135 = .ok (.aload_n 0, 1) := by decide +kernel
theorem dX12_plain_136 : decode cX12_plain 136 = .ok (.aload_n 0, 1) := by decide +kernel
theorem dX12_plain_137 : decode cX12_plain 137 = .ok (.iload 4, 2) := by decide +kernel
theorem dX12_plain_139 : decode cX12_plain 139 = .ok (.invokevirtual 567, 3) := by decide +kernel
theorem dX12_plain_142 : decode cX12_plain 142 = .ok (.invokevirtual 365, 3) := by decide +kernel
theorem dX12_plain_145 : decode cX12_plain 145 = .ok (.ifCond .ne 5, 3) := by decide +kernel
theorem dX12_plain_148 : decode cX12_plain 148 = .ok (.iconst 0, 1) := by decide +kernel
theorem dX12_plain_149 : decode cX12_plain 149 = .ok (.ireturn, 1) := by decide +kernel
theorem dX12_plain_150 : decode cX12_plain 150 = .ok (.iload 6, 2) := by decide +kernel
theorem dX12_plain_152 : decode cX12_plain 152 = .ok (.ifCond .eq 27, 3) := by decide +kernel
theorem dX12_plain_155 : decode cX12_plain 155 = .ok (.aload_n 0, 1) := by decide +kernel
theorem dX12_plain_156 : decode cX12_plain 156 = .ok (.iload_n 3, 1) := by decide +kernel
theorem dX12_plain_157 : decode cX12_plain 157 = .ok (.invokevirtual 546, 3) := by decide +kernel
theorem dX12_plain_160 : decode cX12_plain 160 = .ok (.ifCond .eq 19, 3) := by decide +kernel
theorem dX12_plain_163 : decode cX12_plain 163 = .ok (.aload_n 0, 1) := by decide +kernel
theorem dX12_plain_164 : decode cX12_plain 164 = .ok (.aload_n 0, 1) := by decide +kernel
theorem dX12_plain_165 : decode cX12_plain 165 = .ok (.iload_n 3, 1) := by decide +kernel
theorem dX12_plain_166 : decode cX12_plain 166 = .ok (.invokevirtual 567, 3) := by decide +kernel
theorem dX12_plain_169 : decode cX12_plain 169 = .ok (.invokevirtual 365, 3) := by decide +kernel
theorem dX12_plain_172 : decode cX12_plain 172 = .ok (.ifCond .ne 7, 3) := by decide +kernel
theorem dX12_plain_175 : decode cX12_plain 175 = .ok (.iconst 0, 1) := by decide +kernel
theorem dX12_plain_176 : decode cX12_plain 176 = .ok (.goto 4, 3) := by decide +kernel
theorem dX12_plain_179 : decode cX12_plain 179 = .ok (.iconst (-1), 1) := by decide +kernel
theorem dX12_plain_180 : decode cX12_plain 180 = .ok (.ireturn, 1) := by decide +kernel
theorem dX12_plain_181 : decode cX12_plain 181 = .ok (.iload 5, 2) := by decide +kernel
theorem dX12_plain_183 : decode cX12_plain 183 = .ok (.ifCond .eq 12, 3) := by decide +kernel
theorem dX12_plain_186 : decode cX12_plain 186 = .ok (.aload_n 0, 1) := by decide +kernel
theorem dX12_plain_187 : decode cX12_plain 187 = .ok (.iload_n 3, 1) := by decide +kernel
theorem dX12_plain_188 : decode cX12_plain 188 = .ok (.iconst 1, 1) := by decide +kernel
theorem dX12_plain_189 : decode cX12_plain 189 = .ok (.invokevirtual 592, 3) := by decide +kernel
theorem dX12_plain_192 : decode cX12_plain 192 = .ok (.goto 4, 3) := by decide +kernel
theorem dX12_plain_195 : decode cX12_plain 195 = .ok (.iconst (-1), 1) := by decide +kernel
theorem dX12_plain_196 : decode cX12_plain 196 = .ok (.ireturn, 1) := by decide +kernel
theorem dX12_plain_197 : decode cX12_plain 197 = .ok (.iload 5, 2) := by decide +kernel
theorem dX12_plain_199 : decode cX12_plain 199 = .ok (.ifCond .eq 12, 3) := by decide +kernel
theorem dX12_plain_202 : decode cX12_plain 202 = .ok (.aload_n 0, 1) := by decide +kernel
theorem dX12_plain_203 : decode cX12_plain 203 = .ok (.iload_n 3, 1) := by decide +kernel
theorem dX12_plain_204 : decode cX12_plain 204 = .ok (.iconst 2, 1) := by decide +kernel
theorem dX12_plain_205 : decode cX12_plain 205 = .ok (.invokevirtual 592, 3) := by decide +kernel
theorem dX12_plain_208 : decode cX12_plain 208 = .ok (.goto 4, 3) := by decide +kernel
theorem dX12_plain_211 : decode cX12_plain 211 = .ok (.iconst (-1), 1) := by decide +kernel
theorem dX12_plain_212 : decode cX12_plain 212 = .ok (.ireturn, 1) := by decide +kernel
theorem dX12_plain_213 : decode cX12_plain 213 = .ok (.iload 5, 2) := by decide +kernel
theorem dX12_plain_215 : decode cX12_plain 215 = .ok (.ifCond .eq 7, 3) := by decide +kernel
theorem dX12_plain_218 : decode cX12_plain 218 = .ok (.iconst 1, 1) := by decide +kernel
theorem dX12_plain_219 : decode cX12_plain 219 = .ok (.goto 16, 3) := by decide +kernel
theorem dX12_plain_222 : decode cX12_plain 222 = .ok (.aload_n 0, 1) := by decide +kernel
theorem dX12_plain_223 : decode cX12_plain 223 = .ok (.iload_n 3, 1) := by decide +kernel
theorem dX12_plain_224 : decode cX12_plain 224 = .ok (.invokevirtual 678, 3) := by decide +kernel
theorem dX12_plain_227 : decode cX12_plain 227 = .ok (.ifCond .eq 7, 3) := by decide +kernel
theorem dX12_plain_230 : decode cX12_plain 230 = .ok (.iconst 0, 1) := by decide +kernel
theorem dX12_plain_231 : decode cX12_plain 231 = .ok (.goto 4, 3) := by decide +kernel
theorem dX12_plain_234 : decode cX12_plain 234 = .ok (.iconst (-1), 1) := by decide +kernel
theorem dX12_plain_235 : decode cX12_plain 235 = .ok (.ireturn, 1) := by decide +kernel
theorem dX12_plain_236 : decode cX12_plain 236 = .ok (.iload 5, 2) := by decide +kernel
theorem dX12_plain_238 : decode cX12_plain 238 = .ok (.ifCond .eq 7, 3) := by decide +kernel
theorem dX12_plain_241 : decode cX12_plain 241 = .ok (.iconst 0, 1) := by decide +kernel
theorem dX12_plain_242 : decode cX12_plain 242 = .ok (.goto 16, 3) := by decide +kernel
theorem dX12_plain_245 : decode cX12_plain 245 = .ok (.aload_n 0, 1) := by decide +kernel
theorem dX12_plain_246 : decode cX12_plain 246 = .ok (.iload_n 3, 1) := by decide +kernel
theorem dX12_plain_247 : decode cX12_plain 247 = .ok (.invokevirtual 678, 3) := by decide +kernel
theorem dX12_plain_250 : decode cX12_plain 250 = .ok (.ifCond .eq 7, 3) := by decide +kernel
theorem dX12_plain_253 : decode cX12_plain 253 = .ok (.iconst 1, 1) := by decide +kernel
theorem dX12_plain_254 : decode cX12_plain 254 = .ok (.goto 4, 3) := by decide +kernel
theorem dX12_plain_257 : decode cX12_plain 257 = .ok (.iconst (-1), 1) := by decide +kernel
theorem dX12_plain_258 : decode cX12_plain 258 = .ok (.ireturn, 1) := by decide +kernel
theorem dX12_plain_259 : decode cX12_plain 259 = .ok (.iload 5, 2) := by decide +kernel
theorem dX12_plain_261 : decode cX12_plain 261 = .ok (.ifCond .ne 11, 3) := by decide +kernel
theorem dX12_plain_264 : decode cX12_plain 264 = .ok (.aload_n 0, 1) := by decide +kernel
theorem dX12_plain_265 : decode cX12_plain 265 = .ok (.iload_n 3, 1) := by decide +kernel
theorem dX12_plain_266 : decode cX12_plain 266 = .ok (.invokevirtual 678, 3) := by decide +kernel
theorem dX12_plain_269 : decode cX12_plain 269 = .ok (.ifCond .eq 7, 3) := by decide +kernel
theorem dX12_plain_272 : decode cX12_plain 272 = .ok (.iconst 0, 1) := by decide +kernel
theorem dX12_plain_273 : decode cX12_plain 273 = .ok (.goto 4, 3) := by decide +kernel
theorem dX12_plain_276 : decode cX12_plain 276 = .ok (.iconst (-1), 1) := by decide +kernel
theorem dX12_plain_277 : decode cX12_plain 277 = .ok (.ireturn, 1) := by decide +kernel
theorem dX12_plain_278 : decode cX12_plain 278 = .ok (.iload_n 3, 1) := by decide +kernel
theorem dX12_plain_279 : decode cX12_plain 279 = .ok (.iload 4, 2) := by decide +kernel
theorem dX12_plain_281 : decode cX12_plain 281 = .ok (.if_icmp .eq 29, 3) := by decide +kernel
theorem dX12_plain_284 : decode cX12_plain 284 = .ok (.iload 4, 2) := by decide +kernel
theorem dX12_plain_286 : decode cX12_plain 286 = .ok (.iconst (-1), 1) := by decide +kernel
theorem dX12_plain_287 : decode cX12_plain 287 = .ok (.if_icmp .eq 27, 3) := by decide +kernel
theorem dX12_plain_290 : decode cX12_plain 290 = .ok (.aload_n 0, 1) := by decide +kernel
theorem dX12_plain_291 : decode cX12_plain 291 = .ok (.iload 4, 2) := by decide +kernel
theorem dX12_plain_293 : decode cX12_plain 293 = .ok (.invokevirtual 468, 3) := by decide +kernel
theorem dX12_plain_296 : decode cX12_plain 296 = .ok (.ifCond .eq 18, 3) := by decide +kernel
theorem dX12_plain_299 : decode cX12_plain 299 = .ok (.aload_n 0, 1) := by decide +kernel
theorem dX12_plain_300 : decode cX12_plain 300 = .ok (.iload 4, 2) := by decide +kernel
theorem dX12_plain_302 : decode cX12_plain 302 = .ok (.invokevirtual 321, 3) := by decide +kernel
theorem dX12_plain_305 : decode cX12_plain 305 = .ok (.lconst 0, 1) := by decide +kernel
theorem dX12_plain_306 : decode cX12_plain 306 = .ok (.lcmp, 1) := by decide +kernel
theorem dX12_plain_307 : decode cX12_plain 307 = .ok (.ifCond .ne 7, 3) := by decide +kernel
theorem dX12_plain_310 : decode cX12_plain 310 = .ok (.iconst 0, 1) := by decide +kernel
theorem dX12_plain_311 : decode cX12_plain 311 = .ok (.goto 4, 3) := by decide +kernel
theorem dX12_plain_314 : decode cX12_plain 314 = .ok (.iconst (-1), 1) := by decide +kernel
theorem dX12_plain_315 : decode cX12_plain 315 = .ok (.ireturn, 1) := by decide +kernel
theorem dX12_plain_316 : decode cX12_plain 316 = .ok (.iconst (-1), 1) := by decide +kernel
theorem dX12_plain_317 : decode cX12_plain 317 = .ok (.ireturn, 1) := by decide +kernel

section
variable {p : Program} {l : Launch} {e : Env} {R : Room} {s : State} {m : MethodId} {args : Array Value} {below : List Frame} {meth : Method} {c : Code} {H : Heap} {locs : List Loc} {Qf : State → Prop}
variable {ls : Array Slot} {D : va_G} {ca : Nat → ClassId} {A : Nat → Prop} {h0 : Nat} {ad : Nat → Nat} {H0 : Heap} {u : iST}
def w_plain_150 (Q : Int → iST → Prop) (x3 : Int) (x6 : Int) (u : iST) : Prop :=
  br (x6 = 0) (
    Q (-1) u) (
    w_isConstant x3 (fun v5 u => 
    br (v5 = 0) (
      Q (-1) u) (
      w_valueOf x3 (fun v6 u => 
      w_isPair v6 (fun v7 u => 
      br (v7 ≠ 0) (
        Q (-1) u) (
        Q 0 u)) u) u)) u)
set_option maxRecDepth 20000 in
set_option maxHeartbeats 4000000 in
theorem b_plain_150 (X : kX p m c cX12_plain 7 s args D ca) (hRf : 3 ≤ R.frames) (hRl : 64 ≤ R.locals) {Q : Int → iST → Prop} (hret : ∀ (v : Int) (u : iST) (H : Heap) (locs : List Loc) (ls : Array Slot) (pc : Nat), inR v → Q v u → kW D ca A h0 ad H0 H locs u → decode cX12_plain pc = .ok (.ireturn, 1) → W p l e R s m args below meth c H locs 0 0 Qf (F0 m pc ls [.int (jI v)])) {x3 x6 : Int} (rx3 : inR x3) (rx6 : inR x6) (hw : kW D ca A h0 ad H0 H locs u) (hl : lv_has ls 7 [(0, .ref h0), (3, .int (jI x3)), (6, .int (jI x6))]) (h : w_plain_150 Q x3 x6 u) : W p l e R s m args below meth c H locs 0 0 Qf (F0 m 150 ls []) := by
  have hx := X.1.1
  have hb := X.1.2.1
  unfold w_plain_150 at h
  refine lv_iload hx hb dX12_plain_150 (lv_at hl 2 rfl) ?_
  refine k_if_eq hx hb rx6 dX12_plain_152 (tgt := 179) rfl h (fun h => ?_) (fun h => ?_)
  · refine lv_iconst hx hb dX12_plain_179 (v := jI (-1)) rfl ?_
    exact hret _ _ _ _ _ _ (by decide) h hw dX12_plain_180
  · refine lv_aload_n hx hb dX12_plain_155 rfl (lv_at hl 0 rfl) ?_
    refine lv_iload_n hx hb dX12_plain_156 rfl (lv_at hl 1 rfl) ?_
    refine kcI (n := 1) (c_isConstant rx3 h) G_isConstant E_isConstant X hw (Nat.le_trans (Nat.le_of_ble_eq_true rfl) hRf) (Nat.le_trans (Nat.le_of_ble_eq_true rfl) hRl) rfl hl.1 (Nat.le_of_ble_eq_true rfl) rfl dX12_plain_157 (fun v5 u H locs rv5 h hw => ?_)
    refine k_if_eq hx hb rv5 dX12_plain_160 (tgt := 179) rfl h (fun h => ?_) (fun h => ?_)
    · refine lv_iconst hx hb dX12_plain_179 (v := jI (-1)) rfl ?_
      exact hret _ _ _ _ _ _ (by decide) h hw dX12_plain_180
    · refine lv_aload_n hx hb dX12_plain_163 rfl (lv_at hl 0 rfl) ?_
      refine lv_aload_n hx hb dX12_plain_164 rfl (lv_at hl 0 rfl) ?_
      refine lv_iload_n hx hb dX12_plain_165 rfl (lv_at hl 1 rfl) ?_
      refine kcI (n := 1) (c_valueOf rx3 h) G_valueOf E_valueOf X hw (Nat.le_trans (Nat.le_of_ble_eq_true rfl) hRf) (Nat.le_trans (Nat.le_of_ble_eq_true rfl) hRl) rfl hl.1 (Nat.le_of_ble_eq_true rfl) rfl dX12_plain_166 (fun v6 u H locs rv6 h hw => ?_)
      refine kcI (n := 1) (c_isPair rv6 h) G_isPair E_isPair X hw (Nat.le_trans (Nat.le_of_ble_eq_true rfl) hRf) (Nat.le_trans (Nat.le_of_ble_eq_true rfl) hRl) rfl hl.1 (Nat.le_of_ble_eq_true rfl) rfl dX12_plain_169 (fun v7 u H locs rv7 h hw => ?_)
      refine k_if_ne hx hb rv7 dX12_plain_172 (tgt := 179) rfl h (fun h => ?_) (fun h => ?_)
      · refine lv_iconst hx hb dX12_plain_179 (v := jI (-1)) rfl ?_
        exact hret _ _ _ _ _ _ (by decide) h hw dX12_plain_180
      · refine lv_iconst hx hb dX12_plain_175 (v := jI 0) rfl ?_
        refine lv_goto hx hb dX12_plain_176 (tgt := 180) rfl ?_
        exact hret _ _ _ _ _ _ (by decide) h hw dX12_plain_180

def w_plain_35 (Q : Int → iST → Prop) (x2 : Int) (x3 : Int) (y0 : Int) (u : iST) : Prop :=
  w_isCallOf x3 5 (fun v3 u => 
  br (x2 = 4) (
    br (x3 ≠ y0) (
      w_isCallOf y0 5 (fun v4 u => 
      br (v3 = 0) (
        w_plain_150 Q x3 v4 u) (
        w_isConstant y0 (fun v8 u => 
        br (v8 = 0) (
          w_plain_150 Q x3 v4 u) (
          w_valueOf y0 (fun v9 u => 
          w_isPair v9 (fun v10 u => 
          br (v10 ≠ 0) (
            w_plain_150 Q x3 v4 u) (
            Q 0 u)) u) u)) u)) u) (
      Q 1 u)) (
  br (x2 = 5) (
    Q (-1) u) (
  br (x2 = 6) (
    Q (-1) u) (
  br (x2 = 7) (
    Q (-1) u) (
  br (x2 = 8) (
    Q (-1) u) (
  br (x2 = 9) (
    br (x3 = y0) (
      Q 0 u) (
      br (y0 = (-1)) (
        Q (-1) u) (
        w_isNatural y0 (fun v16 u => 
        br (v16 = 0) (
          Q (-1) u) (
          w_value y0 (fun v17 u => 
          br (v17 ≠ 0) (
            Q (-1) u) (
            Q 0 u)) u)) u))) (
  br (x2 = 10) (
    br (v3 = 0) (
      w_isNumbered x3 (fun v19 u => 
      br (v19 = 0) (
        Q (-1) u) (
        Q 0 u)) u) (
      Q 1 u)) (
  br (x2 = 11) (
    br (v3 = 0) (
      Q (-1) u) (
      w_term x3 1 (fun v21 u => 
      Q v21 u) u)) (
  br (x2 = 12) (
    br (v3 = 0) (
      Q (-1) u) (
      w_term x3 2 (fun v23 u => 
      Q v23 u) u)) (
  br (x2 = 13) (
    br (v3 = 0) (
      w_isNumbered x3 (fun v25 u => 
      br (v25 = 0) (
        Q (-1) u) (
        Q 1 u)) u) (
      Q 0 u)) (
  br (x2 = 14) (
    br (v3 ≠ 0) (
      Q 0 u) (
      w_isNumbered x3 (fun v27 u => 
      br (v27 = 0) (
        Q (-1) u) (
        Q 0 u)) u)) (
  Q (-1) u)))))))))))) u
set_option maxRecDepth 20000 in
set_option maxHeartbeats 4000000 in
theorem b_plain_35 (X : kX p m c cX12_plain 7 s args D ca) (hRf : 3 ≤ R.frames) (hRl : 64 ≤ R.locals) {Q : Int → iST → Prop} (hret : ∀ (v : Int) (u : iST) (H : Heap) (locs : List Loc) (ls : Array Slot) (pc : Nat), inR v → Q v u → kW D ca A h0 ad H0 H locs u → decode cX12_plain pc = .ok (.ireturn, 1) → W p l e R s m args below meth c H locs 0 0 Qf (F0 m pc ls [.int (jI v)])) {x2 x3 y0 : Int} (rx2 : inR x2) (rx3 : inR x3) (ry0 : inR y0) (hw : kW D ca A h0 ad H0 H locs u) (hl : lv_has ls 7 [(0, .ref h0), (2, .int (jI x2)), (3, .int (jI x3))]) (h : w_plain_35 Q x2 x3 y0 u) : W p l e R s m args below meth c H locs 0 0 Qf (F0 m 35 ls [.int (jI y0)]) := by
  have hx := X.1.1
  have hb := X.1.2.1
  unfold w_plain_35 at h
  refine lv_istore hx hb dX12_plain_35 hl (by decide) rfl (fun ls hl => ?_)
  have hl : lv_has ls 7 [(4, .int (jI y0)), (0, .ref (h0)), (2, .int (jI x2)), (3, .int (jI x3))] := hl
  refine lv_aload_n hx hb dX12_plain_37 rfl (lv_at hl 1 rfl) ?_
  refine lv_iload_n hx hb dX12_plain_38 rfl (lv_at hl 3 rfl) ?_
  refine lv_iconst hx hb dX12_plain_39 (v := jI 5) rfl ?_
  refine kcI (n := 2) (c_isCallOf rx3 (by decide) h) G_isCallOf E_isCallOf X hw (Nat.le_trans (Nat.le_of_ble_eq_true rfl) hRf) (Nat.le_trans (Nat.le_of_ble_eq_true rfl) hRl) rfl hl.1 (Nat.le_of_ble_eq_true rfl) rfl dX12_plain_40 (fun v3 u H locs rv3 h hw => ?_)
  refine lv_istore hx hb dX12_plain_43 hl (by decide) rfl (fun ls hl => ?_)
  have hl : lv_has ls 7 [(5, .int (jI v3)), (4, .int (jI y0)), (0, .ref (h0)), (2, .int (jI x2)), (3, .int (jI x3))] := hl
  refine lv_iload_n hx hb dX12_plain_45 rfl (lv_at hl 3 rfl) ?_
  refine br_sp h (fun ek h => ?_) (fun n11 h => ?_)
  · refine k_tabIn (tgt := 104) (off := 58) hx hb dX12_plain_46 ek (by decide) (by decide) rfl rfl ?_
    refine lv_iload_n hx hb dX12_plain_104 rfl (lv_at hl 4 rfl) ?_
    refine lv_iload hx hb dX12_plain_105 (lv_at hl 1 rfl) ?_
    refine k_icmp_ne hx hb rx3 ry0 dX12_plain_107 (tgt := 112) rfl h (fun h => ?_) (fun h => ?_)
    · refine lv_aload_n hx hb dX12_plain_112 rfl (lv_at hl 2 rfl) ?_
      refine lv_iload hx hb dX12_plain_113 (lv_at hl 1 rfl) ?_
      refine lv_iconst hx hb dX12_plain_115 (v := jI 5) rfl ?_
      refine kcI (n := 2) (c_isCallOf ry0 (by decide) h) G_isCallOf E_isCallOf X hw (Nat.le_trans (Nat.le_of_ble_eq_true rfl) hRf) (Nat.le_trans (Nat.le_of_ble_eq_true rfl) hRl) rfl hl.1 (Nat.le_of_ble_eq_true rfl) rfl dX12_plain_116 (fun v4 u H locs rv4 h hw => ?_)
      refine lv_istore hx hb dX12_plain_119 hl (by decide) rfl (fun ls hl => ?_)
      have hl : lv_has ls 7 [(6, .int (jI v4)), (5, .int (jI v3)), (4, .int (jI y0)), (0, .ref (h0)), (2, .int (jI x2)), (3, .int (jI x3))] := hl
      refine lv_iload hx hb dX12_plain_121 (lv_at hl 1 rfl) ?_
      refine k_if_eq hx hb rv3 dX12_plain_123 (tgt := 150) rfl h (fun h => ?_) (fun h => ?_)
      · exact b_plain_150 X hRf hRl hret rx3 rv4 hw (lv_sub hl [3, 5, 0] rfl) h
      · refine lv_aload_n hx hb dX12_plain_126 rfl (lv_at hl 3 rfl) ?_
        refine lv_iload hx hb dX12_plain_127 (lv_at hl 2 rfl) ?_
        refine kcI (n := 1) (c_isConstant ry0 h) G_isConstant E_isConstant X hw (Nat.le_trans (Nat.le_of_ble_eq_true rfl) hRf) (Nat.le_trans (Nat.le_of_ble_eq_true rfl) hRl) rfl hl.1 (Nat.le_of_ble_eq_true rfl) rfl dX12_plain_129 (fun v8 u H locs rv8 h hw => ?_)
        refine k_if_eq hx hb rv8 dX12_plain_132 (tgt := 150) rfl h (fun h => ?_) (fun h => ?_)
        · exact b_plain_150 X hRf hRl hret rx3 rv4 hw (lv_sub hl [3, 5, 0] rfl) h
        · refine lv_aload_n hx hb dX12_plain_135 rfl (lv_at hl 3 rfl) ?_
          refine lv_aload_n hx hb dX12_plain_136 rfl (lv_at hl 3 rfl) ?_
          refine lv_iload hx hb dX12_plain_137 (lv_at hl 2 rfl) ?_
          refine kcI (n := 1) (c_valueOf ry0 h) G_valueOf E_valueOf X hw (Nat.le_trans (Nat.le_of_ble_eq_true rfl) hRf) (Nat.le_trans (Nat.le_of_ble_eq_true rfl) hRl) rfl hl.1 (Nat.le_of_ble_eq_true rfl) rfl dX12_plain_139 (fun v9 u H locs rv9 h hw => ?_)
          refine kcI (n := 1) (c_isPair rv9 h) G_isPair E_isPair X hw (Nat.le_trans (Nat.le_of_ble_eq_true rfl) hRf) (Nat.le_trans (Nat.le_of_ble_eq_true rfl) hRl) rfl hl.1 (Nat.le_of_ble_eq_true rfl) rfl dX12_plain_142 (fun v10 u H locs rv10 h hw => ?_)
          refine k_if_ne hx hb rv10 dX12_plain_145 (tgt := 150) rfl h (fun h => ?_) (fun h => ?_)
          · exact b_plain_150 X hRf hRl hret rx3 rv4 hw (lv_sub hl [3, 5, 0] rfl) h
          · refine lv_iconst hx hb dX12_plain_148 (v := jI 0) rfl ?_
            exact hret _ _ _ _ _ _ (by decide) h hw dX12_plain_149
    · refine lv_iconst hx hb dX12_plain_110 (v := jI 1) rfl ?_
      exact hret _ _ _ _ _ _ (by decide) h hw dX12_plain_111
  refine br_sp h (fun ek h => ?_) (fun n12 h => ?_)
  · refine k_tabIn (tgt := 316) (off := 270) hx hb dX12_plain_46 ek (by decide) (by decide) rfl rfl ?_
    refine lv_iconst hx hb dX12_plain_316 (v := jI (-1)) rfl ?_
    exact hret _ _ _ _ _ _ (by decide) h hw dX12_plain_317
  refine br_sp h (fun ek h => ?_) (fun n13 h => ?_)
  · refine k_tabIn (tgt := 316) (off := 270) hx hb dX12_plain_46 ek (by decide) (by decide) rfl rfl ?_
    refine lv_iconst hx hb dX12_plain_316 (v := jI (-1)) rfl ?_
    exact hret _ _ _ _ _ _ (by decide) h hw dX12_plain_317
  refine br_sp h (fun ek h => ?_) (fun n14 h => ?_)
  · refine k_tabIn (tgt := 316) (off := 270) hx hb dX12_plain_46 ek (by decide) (by decide) rfl rfl ?_
    refine lv_iconst hx hb dX12_plain_316 (v := jI (-1)) rfl ?_
    exact hret _ _ _ _ _ _ (by decide) h hw dX12_plain_317
  refine br_sp h (fun ek h => ?_) (fun n15 h => ?_)
  · refine k_tabIn (tgt := 316) (off := 270) hx hb dX12_plain_46 ek (by decide) (by decide) rfl rfl ?_
    refine lv_iconst hx hb dX12_plain_316 (v := jI (-1)) rfl ?_
    exact hret _ _ _ _ _ _ (by decide) h hw dX12_plain_317
  refine br_sp h (fun ek h => ?_) (fun n18 h => ?_)
  · refine k_tabIn (tgt := 278) (off := 232) hx hb dX12_plain_46 ek (by decide) (by decide) rfl rfl ?_
    refine lv_iload_n hx hb dX12_plain_278 rfl (lv_at hl 4 rfl) ?_
    refine lv_iload hx hb dX12_plain_279 (lv_at hl 1 rfl) ?_
    refine k_icmp_eq hx hb rx3 ry0 dX12_plain_281 (tgt := 310) rfl h (fun h => ?_) (fun h => ?_)
    · refine lv_iconst hx hb dX12_plain_310 (v := jI 0) rfl ?_
      refine lv_goto hx hb dX12_plain_311 (tgt := 315) rfl ?_
      exact hret _ _ _ _ _ _ (by decide) h hw dX12_plain_315
    · refine lv_iload hx hb dX12_plain_284 (lv_at hl 1 rfl) ?_
      refine lv_iconst hx hb dX12_plain_286 (v := jI (-1)) rfl ?_
      refine k_icmp_eq hx hb ry0 (by decide) dX12_plain_287 (tgt := 314) rfl h (fun h => ?_) (fun h => ?_)
      · refine lv_iconst hx hb dX12_plain_314 (v := jI (-1)) rfl ?_
        exact hret _ _ _ _ _ _ (by decide) h hw dX12_plain_315
      · refine lv_aload_n hx hb dX12_plain_290 rfl (lv_at hl 2 rfl) ?_
        refine lv_iload hx hb dX12_plain_291 (lv_at hl 1 rfl) ?_
        refine kcI (n := 1) (c_isNatural ry0 h) G_isNatural E_isNatural X hw (Nat.le_trans (Nat.le_of_ble_eq_true rfl) hRf) (Nat.le_trans (Nat.le_of_ble_eq_true rfl) hRl) rfl hl.1 (Nat.le_of_ble_eq_true rfl) rfl dX12_plain_293 (fun v16 u H locs rv16 h hw => ?_)
        refine k_if_eq hx hb rv16 dX12_plain_296 (tgt := 314) rfl h (fun h => ?_) (fun h => ?_)
        · refine lv_iconst hx hb dX12_plain_314 (v := jI (-1)) rfl ?_
          exact hret _ _ _ _ _ _ (by decide) h hw dX12_plain_315
        · refine lv_aload_n hx hb dX12_plain_299 rfl (lv_at hl 2 rfl) ?_
          refine lv_iload hx hb dX12_plain_300 (lv_at hl 1 rfl) ?_
          refine kcL (n := 1) (c_value ry0 h) G_value E_value X hw (Nat.le_trans (Nat.le_of_ble_eq_true rfl) hRf) (Nat.le_trans (Nat.le_of_ble_eq_true rfl) hRl) rfl hl.1 (Nat.le_of_ble_eq_true rfl) rfl dX12_plain_302 (fun v17 u H locs rv17 h hw => ?_)
          refine lv_lconst hx hb dX12_plain_305 (v := jL 0) rfl ?_
          refine k_lcmp_ne hx hb rv17 (by decide) dX12_plain_306 dX12_plain_307 (tgt := 314) rfl h (fun h => ?_) (fun h => ?_)
          · refine lv_iconst hx hb dX12_plain_314 (v := jI (-1)) rfl ?_
            exact hret _ _ _ _ _ _ (by decide) h hw dX12_plain_315
          · refine lv_iconst hx hb dX12_plain_310 (v := jI 0) rfl ?_
            refine lv_goto hx hb dX12_plain_311 (tgt := 315) rfl ?_
            exact hret _ _ _ _ _ _ (by decide) h hw dX12_plain_315
  refine br_sp h (fun ek h => ?_) (fun n20 h => ?_)
  · refine k_tabIn (tgt := 213) (off := 167) hx hb dX12_plain_46 ek (by decide) (by decide) rfl rfl ?_
    refine lv_iload hx hb dX12_plain_213 (lv_at hl 0 rfl) ?_
    refine k_if_eq hx hb rv3 dX12_plain_215 (tgt := 222) rfl h (fun h => ?_) (fun h => ?_)
    · refine lv_aload_n hx hb dX12_plain_222 rfl (lv_at hl 2 rfl) ?_
      refine lv_iload_n hx hb dX12_plain_223 rfl (lv_at hl 4 rfl) ?_
      refine kcI (n := 1) (c_isNumbered rx3 h) G_isNumbered E_isNumbered X hw (Nat.le_trans (Nat.le_of_ble_eq_true rfl) hRf) (Nat.le_trans (Nat.le_of_ble_eq_true rfl) hRl) rfl hl.1 (Nat.le_of_ble_eq_true rfl) rfl dX12_plain_224 (fun v19 u H locs rv19 h hw => ?_)
      refine k_if_eq hx hb rv19 dX12_plain_227 (tgt := 234) rfl h (fun h => ?_) (fun h => ?_)
      · refine lv_iconst hx hb dX12_plain_234 (v := jI (-1)) rfl ?_
        exact hret _ _ _ _ _ _ (by decide) h hw dX12_plain_235
      · refine lv_iconst hx hb dX12_plain_230 (v := jI 0) rfl ?_
        refine lv_goto hx hb dX12_plain_231 (tgt := 235) rfl ?_
        exact hret _ _ _ _ _ _ (by decide) h hw dX12_plain_235
    · refine lv_iconst hx hb dX12_plain_218 (v := jI 1) rfl ?_
      refine lv_goto hx hb dX12_plain_219 (tgt := 235) rfl ?_
      exact hret _ _ _ _ _ _ (by decide) h hw dX12_plain_235
  refine br_sp h (fun ek h => ?_) (fun n22 h => ?_)
  · refine k_tabIn (tgt := 181) (off := 135) hx hb dX12_plain_46 ek (by decide) (by decide) rfl rfl ?_
    refine lv_iload hx hb dX12_plain_181 (lv_at hl 0 rfl) ?_
    refine k_if_eq hx hb rv3 dX12_plain_183 (tgt := 195) rfl h (fun h => ?_) (fun h => ?_)
    · refine lv_iconst hx hb dX12_plain_195 (v := jI (-1)) rfl ?_
      exact hret _ _ _ _ _ _ (by decide) h hw dX12_plain_196
    · refine lv_aload_n hx hb dX12_plain_186 rfl (lv_at hl 2 rfl) ?_
      refine lv_iload_n hx hb dX12_plain_187 rfl (lv_at hl 4 rfl) ?_
      refine lv_iconst hx hb dX12_plain_188 (v := jI 1) rfl ?_
      refine kcI (n := 2) (c_term rx3 (by decide) h) G_term E_term X hw (Nat.le_trans (Nat.le_of_ble_eq_true rfl) hRf) (Nat.le_trans (Nat.le_of_ble_eq_true rfl) hRl) rfl hl.1 (Nat.le_of_ble_eq_true rfl) rfl dX12_plain_189 (fun v21 u H locs rv21 h hw => ?_)
      refine lv_goto hx hb dX12_plain_192 (tgt := 196) rfl ?_
      exact hret _ _ _ _ _ _ rv21 h hw dX12_plain_196
  refine br_sp h (fun ek h => ?_) (fun n24 h => ?_)
  · refine k_tabIn (tgt := 197) (off := 151) hx hb dX12_plain_46 ek (by decide) (by decide) rfl rfl ?_
    refine lv_iload hx hb dX12_plain_197 (lv_at hl 0 rfl) ?_
    refine k_if_eq hx hb rv3 dX12_plain_199 (tgt := 211) rfl h (fun h => ?_) (fun h => ?_)
    · refine lv_iconst hx hb dX12_plain_211 (v := jI (-1)) rfl ?_
      exact hret _ _ _ _ _ _ (by decide) h hw dX12_plain_212
    · refine lv_aload_n hx hb dX12_plain_202 rfl (lv_at hl 2 rfl) ?_
      refine lv_iload_n hx hb dX12_plain_203 rfl (lv_at hl 4 rfl) ?_
      refine lv_iconst hx hb dX12_plain_204 (v := jI 2) rfl ?_
      refine kcI (n := 2) (c_term rx3 (by decide) h) G_term E_term X hw (Nat.le_trans (Nat.le_of_ble_eq_true rfl) hRf) (Nat.le_trans (Nat.le_of_ble_eq_true rfl) hRl) rfl hl.1 (Nat.le_of_ble_eq_true rfl) rfl dX12_plain_205 (fun v23 u H locs rv23 h hw => ?_)
      refine lv_goto hx hb dX12_plain_208 (tgt := 212) rfl ?_
      exact hret _ _ _ _ _ _ rv23 h hw dX12_plain_212
  refine br_sp h (fun ek h => ?_) (fun n26 h => ?_)
  · refine k_tabIn (tgt := 236) (off := 190) hx hb dX12_plain_46 ek (by decide) (by decide) rfl rfl ?_
    refine lv_iload hx hb dX12_plain_236 (lv_at hl 0 rfl) ?_
    refine k_if_eq hx hb rv3 dX12_plain_238 (tgt := 245) rfl h (fun h => ?_) (fun h => ?_)
    · refine lv_aload_n hx hb dX12_plain_245 rfl (lv_at hl 2 rfl) ?_
      refine lv_iload_n hx hb dX12_plain_246 rfl (lv_at hl 4 rfl) ?_
      refine kcI (n := 1) (c_isNumbered rx3 h) G_isNumbered E_isNumbered X hw (Nat.le_trans (Nat.le_of_ble_eq_true rfl) hRf) (Nat.le_trans (Nat.le_of_ble_eq_true rfl) hRl) rfl hl.1 (Nat.le_of_ble_eq_true rfl) rfl dX12_plain_247 (fun v25 u H locs rv25 h hw => ?_)
      refine k_if_eq hx hb rv25 dX12_plain_250 (tgt := 257) rfl h (fun h => ?_) (fun h => ?_)
      · refine lv_iconst hx hb dX12_plain_257 (v := jI (-1)) rfl ?_
        exact hret _ _ _ _ _ _ (by decide) h hw dX12_plain_258
      · refine lv_iconst hx hb dX12_plain_253 (v := jI 1) rfl ?_
        refine lv_goto hx hb dX12_plain_254 (tgt := 258) rfl ?_
        exact hret _ _ _ _ _ _ (by decide) h hw dX12_plain_258
    · refine lv_iconst hx hb dX12_plain_241 (v := jI 0) rfl ?_
      refine lv_goto hx hb dX12_plain_242 (tgt := 258) rfl ?_
      exact hret _ _ _ _ _ _ (by decide) h hw dX12_plain_258
  refine br_sp h (fun ek h => ?_) (fun n28 h => ?_)
  · refine k_tabIn (tgt := 259) (off := 213) hx hb dX12_plain_46 ek (by decide) (by decide) rfl rfl ?_
    refine lv_iload hx hb dX12_plain_259 (lv_at hl 0 rfl) ?_
    refine k_if_ne hx hb rv3 dX12_plain_261 (tgt := 272) rfl h (fun h => ?_) (fun h => ?_)
    · refine lv_iconst hx hb dX12_plain_272 (v := jI 0) rfl ?_
      refine lv_goto hx hb dX12_plain_273 (tgt := 277) rfl ?_
      exact hret _ _ _ _ _ _ (by decide) h hw dX12_plain_277
    · refine lv_aload_n hx hb dX12_plain_264 rfl (lv_at hl 2 rfl) ?_
      refine lv_iload_n hx hb dX12_plain_265 rfl (lv_at hl 4 rfl) ?_
      refine kcI (n := 1) (c_isNumbered rx3 h) G_isNumbered E_isNumbered X hw (Nat.le_trans (Nat.le_of_ble_eq_true rfl) hRf) (Nat.le_trans (Nat.le_of_ble_eq_true rfl) hRl) rfl hl.1 (Nat.le_of_ble_eq_true rfl) rfl dX12_plain_266 (fun v27 u H locs rv27 h hw => ?_)
      refine k_if_eq hx hb rv27 dX12_plain_269 (tgt := 276) rfl h (fun h => ?_) (fun h => ?_)
      · refine lv_iconst hx hb dX12_plain_276 (v := jI (-1)) rfl ?_
        exact hret _ _ _ _ _ _ (by decide) h hw dX12_plain_277
      · refine lv_iconst hx hb dX12_plain_272 (v := jI 0) rfl ?_
        refine lv_goto hx hb dX12_plain_273 (tgt := 277) rfl ?_
        exact hret _ _ _ _ _ _ (by decide) h hw dX12_plain_277
  refine k_tabOut (tgt := 316) hx hb rx2 dX12_plain_46 (by omega) rfl ?_
  refine lv_iconst hx hb dX12_plain_316 (v := jI (-1)) rfl ?_
  exact hret _ _ _ _ _ _ (by decide) h hw dX12_plain_317

def w_plain_34 (Q : Int → iST → Prop) (x2 : Int) (x3 : Int) (u : iST) : Prop :=
  w_plain_35 Q x2 x3 (-1) u
set_option maxRecDepth 20000 in
set_option maxHeartbeats 4000000 in
theorem b_plain_34 (X : kX p m c cX12_plain 7 s args D ca) (hRf : 3 ≤ R.frames) (hRl : 64 ≤ R.locals) {Q : Int → iST → Prop} (hret : ∀ (v : Int) (u : iST) (H : Heap) (locs : List Loc) (ls : Array Slot) (pc : Nat), inR v → Q v u → kW D ca A h0 ad H0 H locs u → decode cX12_plain pc = .ok (.ireturn, 1) → W p l e R s m args below meth c H locs 0 0 Qf (F0 m pc ls [.int (jI v)])) {x2 x3 : Int} (rx2 : inR x2) (rx3 : inR x3) (hw : kW D ca A h0 ad H0 H locs u) (hl : lv_has ls 7 [(0, .ref h0), (2, .int (jI x2)), (3, .int (jI x3))]) (h : w_plain_34 Q x2 x3 u) : W p l e R s m args below meth c H locs 0 0 Qf (F0 m 34 ls []) := by
  have hx := X.1.1
  have hb := X.1.2.1
  unfold w_plain_34 at h
  refine lv_iconst hx hb dX12_plain_34 (v := jI (-1)) rfl ?_
  exact b_plain_35 X hRf hRl hret rx2 rx3 (by decide) hw hl h

def w_plain (a0 : Int) (Q : Int → iST → Prop) (u : iST) : Prop :=
  bd a0 452000 (rd (u.2.1 0 a0) (fun v1 => 
  w_term a0 1 (fun v2 u => 
  br (v1 < 4) (
    w_plain_34 Q v1 v2 u) (
    br (9 < v1) (
      w_plain_34 Q v1 v2 u) (
      w_term a0 2 (fun v29 u => 
      w_plain_35 Q v1 v2 v29 u) u))) u))
set_option maxRecDepth 20000 in
set_option maxHeartbeats 4000000 in
theorem b_plain_s (X : kX p m c cX12_plain 7 s args D ca) (hRf : 3 ≤ R.frames) (hRl : 64 ≤ R.locals) {Q : Int → iST → Prop} (hret : ∀ (v : Int) (u : iST) (H : Heap) (locs : List Loc) (ls : Array Slot) (pc : Nat), inR v → Q v u → kW D ca A h0 ad H0 H locs u → decode cX12_plain pc = .ok (.ireturn, 1) → W p l e R s m args below meth c H locs 0 0 Qf (F0 m pc ls [.int (jI v)])) {a0 : Int} (ra0 : inR a0) (hw : kW D ca A h0 ad H0 H locs u) (hl : lv_has ls 7 [(0, .ref h0), (1, .int (jI a0))]) (h : w_plain a0 Q u) : W p l e R s m args below meth c H locs 0 0 Qf (F0 m 0 ls []) := by
  have hx := X.1.1
  have hb := X.1.2.1
  unfold w_plain at h
  refine lv_aload_n hx hb dX12_plain_0 rfl (lv_at hl 0 rfl) ?_
  refine gA 0 8 (by decide) L_0 (fun _ _ => mF_0) rfl X hw dX12_plain_1 ?_
  refine lv_iload_n hx hb dX12_plain_4 rfl (lv_at hl 1 rfl) ?_
  refine aL 0 1 0 452000 (fun _ _ _ _ => mG_0) (fun _ => rfl) X hw ra0 dX12_plain_5 rfl h (fun v1 rv1 h => ?_)
  refine lv_istore_n hx hb dX12_plain_6 rfl hl (by decide) rfl (fun ls hl => ?_)
  have hl : lv_has ls 7 [(2, .int (jI v1)), (0, .ref (h0)), (1, .int (jI a0))] := hl
  refine lv_aload_n hx hb dX12_plain_7 rfl (lv_at hl 1 rfl) ?_
  refine lv_iload_n hx hb dX12_plain_8 rfl (lv_at hl 2 rfl) ?_
  refine lv_iconst hx hb dX12_plain_9 (v := jI 1) rfl ?_
  refine kcI (n := 2) (c_term ra0 (by decide) h) G_term E_term X hw (Nat.le_trans (Nat.le_of_ble_eq_true rfl) hRf) (Nat.le_trans (Nat.le_of_ble_eq_true rfl) hRl) rfl hl.1 (Nat.le_of_ble_eq_true rfl) rfl dX12_plain_10 (fun v2 u H locs rv2 h hw => ?_)
  refine lv_istore_n hx hb dX12_plain_13 rfl hl (by decide) rfl (fun ls hl => ?_)
  have hl : lv_has ls 7 [(3, .int (jI v2)), (2, .int (jI v1)), (0, .ref (h0)), (1, .int (jI a0))] := hl
  refine lv_iload_n hx hb dX12_plain_14 rfl (lv_at hl 1 rfl) ?_
  refine lv_iconst hx hb dX12_plain_15 (v := jI 4) rfl ?_
  refine k_icmp_lt hx hb rv1 (by decide) dX12_plain_16 (tgt := 34) rfl h (fun h => ?_) (fun h => ?_)
  · exact b_plain_34 X hRf hRl hret rv1 rv2 hw (lv_sub hl [2, 1, 0] rfl) h
  · refine lv_iload_n hx hb dX12_plain_19 rfl (lv_at hl 1 rfl) ?_
    refine lv_bipush hx hb dX12_plain_20 (v := jI 9) rfl ?_
    refine k_icmp_gt hx hb rv1 (by decide) dX12_plain_22 (tgt := 34) rfl h (fun h => ?_) (fun h => ?_)
    · exact b_plain_34 X hRf hRl hret rv1 rv2 hw (lv_sub hl [2, 1, 0] rfl) h
    · refine lv_aload_n hx hb dX12_plain_25 rfl (lv_at hl 2 rfl) ?_
      refine lv_iload_n hx hb dX12_plain_26 rfl (lv_at hl 3 rfl) ?_
      refine lv_iconst hx hb dX12_plain_27 (v := jI 2) rfl ?_
      refine kcI (n := 2) (c_term ra0 (by decide) h) G_term E_term X hw (Nat.le_trans (Nat.le_of_ble_eq_true rfl) hRf) (Nat.le_trans (Nat.le_of_ble_eq_true rfl) hRl) rfl hl.1 (Nat.le_of_ble_eq_true rfl) rfl dX12_plain_28 (fun v29 u H locs rv29 h hw => ?_)
      refine lv_goto hx hb dX12_plain_31 (tgt := 35) rfl ?_
      exact b_plain_35 X hRf hRl hret rv1 rv2 rv29 hw (lv_sub hl [2, 1, 0] rfl) h

end
theorem c_plain {l : Launch} {a0 : Int} (ra0 : inR a0) {Q : Int → iST → Prop} {u : iST} (h : w_plain a0 Q u) : kMI l yX12_plain (.code yX12_plain cX12_plain 7 (some .int) :: wsM) { frames := 3, cells := 0, slots := 0, locals := 64 } [.int (jI a0)] Q u := kMI_of rfl (fun _ => Nat.le_of_ble_eq_true rfl) (fun X hRf hRl hret hw hl => b_plain_s X hRf hRl hret ra0 hw hl h)
