/-! push -/
theorem dX12_push_0 : decode cX12_push 0 = .ok (.aload_n 0, 1) := by decide +kernel
theorem dX12_push_1 : decode cX12_push 1 = .ok (.getfield 232, 3) := by decide +kernel
theorem dX12_push_4 : decode cX12_push 4 = .ok (.aload_n 0, 1) := by decide +kernel
theorem dX12_push_5 : decode cX12_push 5 = .ok (.getfield 625, 3) := by decide +kernel
theorem dX12_push_8 : decode cX12_push 8 = .ok (.iload_n 1, 1) := by decide +kernel
theorem dX12_push_9 : decode cX12_push 9 = .ok (.iastore, 1) := by decide +kernel
theorem dX12_push_10 : decode cX12_push 10 = .ok (.aload_n 0, 1) := by decide +kernel
theorem dX12_push_11 : decode cX12_push 11 = .ok (.dup, 1) := by decide +kernel
theorem dX12_push_12 : decode cX12_push 12 = .ok (.getfield 625, 3) := by decide +kernel
theorem dX12_push_15 : decode cX12_push 15 = .ok (.iconst 1, 1) := by decide +kernel
theorem dX12_push_16 : decode cX12_push 16 = .ok (.iadd, 1) := by decide +kernel
theorem dX12_push_17 : decode cX12_push 17 = .ok (.putfield 625, 3) := by decide +kernel
theorem dX12_push_20 : decode cX12_push 20 = .ok (.return_, 1) := by decide +kernel

section
variable {p : Program} {l : Launch} {e : Env} {R : Room} {s : State} {m : MethodId} {args : Array Value} {below : List Frame} {meth : Method} {c : Code} {H : Heap} {locs : List Loc} {Qf : State → Prop}
variable {ls : Array Slot} {D : va_G} {ca : Nat → ClassId} {A : Nat → Prop} {h0 : Nat} {ad : Nat → Nat} {H0 : Heap} {u : iST}
def w_push (a0 : Int) (Q : iST → Prop) (u : iST) : Prop :=
  rd (u.1 109) (fun v1 => 
  bd v1 200 (sw (iA u 108 v1 a0) (fun u => 
  rd (u.1 109) (fun v2 => 
  ov (v2 + 1) (
  sw (iI u 109 (v2 + 1)) (fun u => 
  Q u))))))
set_option maxRecDepth 20000 in
set_option maxHeartbeats 4000000 in
theorem b_push_s (X : kX p m c cX12_push 2 s args D ca) (hRf : 0 ≤ R.frames) (hRl : 0 ≤ R.locals) {Q : iST → Prop} (hret : ∀ (u : iST) (H : Heap) (locs : List Loc) (ls : Array Slot) (pc : Nat), Q u → kW D ca A h0 ad H0 H locs u → decode cX12_push pc = .ok (.return_, 1) → W p l e R s m args below meth c H locs 0 0 Qf (F0 m pc ls [])) {a0 : Int} (ra0 : inR a0) (hw : kW D ca A h0 ad H0 H locs u) (hl : lv_has ls 2 [(0, .ref h0), (1, .int (jI a0))]) (h : w_push a0 Q u) : W p l e R s m args below meth c H locs 0 0 Qf (F0 m 0 ls []) := by
  have hx := X.1.1
  have hb := X.1.2.1
  unfold w_push at h
  refine lv_aload_n hx hb dX12_push_0 rfl (lv_at hl 0 rfl) ?_
  refine gA 108 232 (by decide) L_108 (fun _ _ => mF_108) rfl X hw dX12_push_1 ?_
  refine lv_aload_n hx hb dX12_push_4 rfl (lv_at hl 0 rfl) ?_
  refine gS 109 625 (by decide) L_109 (fun _ _ => mF_109) rfl X hw dX12_push_5 h (fun v1 rv1 h => ?_)
  refine lv_iload_n hx hb dX12_push_8 rfl (lv_at hl 1 rfl) ?_
  refine aS 108 70 69 200 (fun _ _ _ _ => mG_108) (fun _ => rfl) (fun _ _ _ _ _ _ => mSA_108) (by decide) X hw rv1 ra0 dX12_push_9 rfl h (fun H locs u hw h => ?_)
  refine lv_aload_n hx hb dX12_push_10 rfl (lv_at hl 0 rfl) ?_
  refine lv_dup hx hb dX12_push_11 rfl ?_
  refine gS 109 625 (by decide) L_109 (fun _ _ => mF_109) rfl X hw dX12_push_12 h (fun v2 rv2 h => ?_)
  refine lv_iconst hx hb dX12_push_15 (v := jI 1) rfl ?_
  refine k_iadd hx hb dX12_push_16 h (fun r3 h => ?_)
  refine pS 109 625 (by decide) L_109 rfl rfl rfl (fun _ _ _ _ _ => mSI_109) (by decide) X hw r3 dX12_push_17 h (fun H locs u hw h => ?_)
  exact hret _ _ _ _ _ h hw dX12_push_20

end
theorem c_push {l : Launch} {a0 : Int} (ra0 : inR a0) {Q : iST → Prop} {u : iST} (h : w_push a0 Q u) : kMV l yX12_push (.code yX12_push cX12_push 2 none :: wsM) { frames := 0, cells := 0, slots := 0, locals := 0 } [.int (jI a0)] Q u := kMV_of rfl (fun _ => Nat.le_of_ble_eq_true rfl) (fun X hRf hRl hret hw hl => b_push_s X hRf hRl hret ra0 hw hl h)

/-! test -/
theorem dX12_test_0 : decode cX12_test 0 = .ok (.aload_n 0, 1) := by decide +kernel
theorem dX12_test_1 : decode cX12_test 1 = .ok (.getfield 190, 3) := by decide +kernel
theorem dX12_test_4 : decode cX12_test 4 = .ok (.iload_n 1, 1) := by decide +kernel
theorem dX12_test_5 : decode cX12_test 5 = .ok (.iaload, 1) := by decide +kernel
theorem dX12_test_6 : decode cX12_test 6 = .ok (.istore_n 2, 1) := by decide +kernel
theorem dX12_test_7 : decode cX12_test 7 = .ok (.aload_n 0, 1) := by decide +kernel
theorem dX12_test_8 : decode cX12_test 8 = .ok (.aload_n 0, 1) := by decide +kernel
theorem dX12_test_9 : decode cX12_test 9 = .ok (.getfield 618, 3) := by decide +kernel
theorem dX12_test_12 : decode cX12_test 12 = .ok (.invokevirtual 546, 3) := by decide +kernel
theorem dX12_test_15 : decode cX12_test 15 = .ok (.ifCond .eq 25, 3) := by decide +kernel
theorem dX12_test_18 : decode cX12_test 18 = .ok (.aload_n 0, 1) := by decide +kernel
theorem dX12_test_19 : decode cX12_test 19 = .ok (.aload_n 0, 1) := by decide +kernel
theorem dX12_test_20 : decode cX12_test 20 = .ok (.iload_n 2, 1) := by decide +kernel
theorem dX12_test_21 : decode cX12_test 21 = .ok (.aload_n 0, 1) := by decide +kernel
theorem dX12_test_22 : decode cX12_test 22 = .ok (.getfield 618, 3) := by decide +kernel
theorem dX12_test_25 : decode cX12_test 25 = .ok (.ifCond .ne 7, 3) := by decide +kernel
theorem dX12_test_28 : decode cX12_test 28 = .ok (.iconst 3, 1) := by decide +kernel
theorem dX12_test_29 : decode cX12_test 29 = .ok (.goto 4, 3) := by decide +kernel
theorem dX12_test_32 : decode cX12_test 32 = .ok (.iconst 2, 1) := by decide +kernel
theorem dX12_test_33 : decode cX12_test 33 = .ok (.invokevirtual 592, 3) := by decide +kernel
theorem dX12_test_36 : decode cX12_test 36 = .ok (.invokevirtual 644, 3) := by decide +kernel
theorem dX12_test_39 : decode cX12_test 39 = .ok (.return_, 1) := by decide +kernel
theorem dX12_test_40 : decode cX12_test 40 = .ok (.aload_n 0, 1) := by decide +kernel
theorem dX12_test_41 : decode cX12_test 41 = .ok (.aload_n 0, 1) := by decide +kernel
theorem dX12_test_42 : decode cX12_test 42 = .ok (.getfield 618, 3) := by decide +kernel
theorem dX12_test_45 : decode cX12_test 45 = .ok (.bipush 15, 2) := by decide +kernel
theorem dX12_test_47 : decode cX12_test 47 = .ok (.invokevirtual 542, 3) := by decide +kernel
theorem dX12_test_50 : decode cX12_test 50 = .ok (.istore_n 3, 1) := by decide +kernel
theorem dX12_test_51 : decode cX12_test 51 = .ok (.aload_n 0, 1) := by decide +kernel
theorem dX12_test_52 : decode cX12_test 52 = .ok (.getfield 199, 3) := by decide +kernel
theorem dX12_test_55 : decode cX12_test 55 = .ok (.iload_n 1, 1) := by decide +kernel
theorem dX12_test_56 : decode cX12_test 56 = .ok (.iload_n 3, 1) := by decide +kernel
theorem dX12_test_57 : decode cX12_test 57 = .ok (.ifCond .eq 20, 3) := by decide +kernel
theorem dX12_test_60 : decode cX12_test 60 = .ok (.aload_n 0, 1) := by decide +kernel
theorem dX12_test_61 : decode cX12_test 61 = .ok (.getfield 8, 3) := by decide +kernel
theorem dX12_test_64 : decode cX12_test 64 = .ok (.aload_n 0, 1) := by decide +kernel
theorem dX12_test_65 : decode cX12_test 65 = .ok (.getfield 14, 3) := by decide +kernel
theorem dX12_test_68 : decode cX12_test 68 = .ok (.aload_n 0, 1) := by decide +kernel
theorem dX12_test_69 : decode cX12_test 69 = .ok (.getfield 618, 3) := by decide +kernel
theorem dX12_test_72 : decode cX12_test 72 = .ok (.iaload, 1) := by decide +kernel
theorem dX12_test_73 : decode cX12_test 73 = .ok (.iaload, 1) := by decide +kernel
theorem dX12_test_74 : decode cX12_test 74 = .ok (.goto 7, 3) := by decide +kernel
theorem dX12_test_77 : decode cX12_test 77 = .ok (.aload_n 0, 1) := by decide +kernel
theorem dX12_test_78 : decode cX12_test 78 = .ok (.getfield 618, 3) := by decide +kernel
theorem dX12_test_81 : decode cX12_test 81 = .ok (.iastore, 1) := by decide +kernel
theorem dX12_test_82 : decode cX12_test 82 = .ok (.aload_n 0, 1) := by decide +kernel
theorem dX12_test_83 : decode cX12_test 83 = .ok (.getfield 205, 3) := by decide +kernel
theorem dX12_test_86 : decode cX12_test 86 = .ok (.iload_n 1, 1) := by decide +kernel
theorem dX12_test_87 : decode cX12_test 87 = .ok (.aload_n 0, 1) := by decide +kernel
theorem dX12_test_88 : decode cX12_test 88 = .ok (.iload_n 2, 1) := by decide +kernel
theorem dX12_test_89 : decode cX12_test 89 = .ok (.iload_n 3, 1) := by decide +kernel
theorem dX12_test_90 : decode cX12_test 90 = .ok (.ifCond .eq 7, 3) := by decide +kernel
theorem dX12_test_93 : decode cX12_test 93 = .ok (.iconst 2, 1) := by decide +kernel
theorem dX12_test_94 : decode cX12_test 94 = .ok (.goto 4, 3) := by decide +kernel
theorem dX12_test_97 : decode cX12_test 97 = .ok (.iconst 3, 1) := by decide +kernel
theorem dX12_test_98 : decode cX12_test 98 = .ok (.invokevirtual 592, 3) := by decide +kernel
theorem dX12_test_101 : decode cX12_test 101 = .ok (.iastore, 1) := by decide +kernel
theorem dX12_test_102 : decode cX12_test 102 = .ok (.aload_n 0, 1) := by decide +kernel
theorem dX12_test_103 : decode cX12_test 103 = .ok (.aload_n 0, 1) := by decide +kernel
theorem dX12_test_104 : decode cX12_test 104 = .ok (.getfield 199, 3) := by decide +kernel
theorem dX12_test_107 : decode cX12_test 107 = .ok (.iload_n 1, 1) := by decide +kernel
theorem dX12_test_108 : decode cX12_test 108 = .ok (.iaload, 1) := by decide +kernel
theorem dX12_test_109 : decode cX12_test 109 = .ok (.invokevirtual 662, 3) := by decide +kernel
theorem dX12_test_112 : decode cX12_test 112 = .ok (.aload_n 0, 1) := by decide +kernel
theorem dX12_test_113 : decode cX12_test 113 = .ok (.getfield 196, 3) := by decide +kernel
theorem dX12_test_116 : decode cX12_test 116 = .ok (.iload_n 1, 1) := by decide +kernel
theorem dX12_test_117 : decode cX12_test 117 = .ok (.iconst 3, 1) := by decide +kernel
theorem dX12_test_118 : decode cX12_test 118 = .ok (.iastore, 1) := by decide +kernel
theorem dX12_test_119 : decode cX12_test 119 = .ok (.aload_n 0, 1) := by decide +kernel
theorem dX12_test_120 : decode cX12_test 120 = .ok (.aload_n 0, 1) := by decide +kernel
theorem dX12_test_121 : decode cX12_test 121 = .ok (.iload_n 2, 1) := by decide +kernel
theorem dX12_test_122 : decode cX12_test 122 = .ok (.iload_n 3, 1) := by decide +kernel
theorem dX12_test_123 : decode cX12_test 123 = .ok (.ifCond .eq 7, 3) := by decide +kernel
theorem dX12_test_126 : decode cX12_test 126 = .ok (.iconst 3, 1) := by decide +kernel
theorem dX12_test_127 : decode cX12_test 127 = .ok (.goto 4, 3) := by decide +kernel
theorem dX12_test_130 : decode cX12_test 130 = .ok (.iconst 2, 1) := by decide +kernel
theorem dX12_test_131 : decode cX12_test 131 = .ok (.invokevirtual 592, 3) := by decide +kernel
theorem dX12_test_134 : decode cX12_test 134 = .ok (.aload_n 0, 1) := by decide +kernel
theorem dX12_test_135 : decode cX12_test 135 = .ok (.getfield 193, 3) := by decide +kernel
theorem dX12_test_138 : decode cX12_test 138 = .ok (.iload_n 1, 1) := by decide +kernel
theorem dX12_test_139 : decode cX12_test 139 = .ok (.baload, 1) := by decide +kernel
theorem dX12_test_140 : decode cX12_test 140 = .ok (.invokevirtual 621, 3) := by decide +kernel
theorem dX12_test_143 : decode cX12_test 143 = .ok (.return_, 1) := by decide +kernel

section
variable {p : Program} {l : Launch} {e : Env} {R : Room} {s : State} {m : MethodId} {args : Array Value} {below : List Frame} {meth : Method} {c : Code} {H : Heap} {locs : List Loc} {Qf : State → Prop}
variable {ls : Array Slot} {D : va_G} {ca : Nat → ClassId} {A : Nat → Prop} {h0 : Nat} {ad : Nat → Nat} {H0 : Heap} {u : iST}
def w_test_131 (Q : iST → Prop) (x1 : Int) (y2 : Int) (y3 : Int) (u : iST) : Prop :=
  w_term y2 y3 (fun v10 u => 
  bd x1 60 (rz (u.2.1 93 x1) (fun v11 => 
  w_beginJob v10 v11 (fun u => 
  Q u) u))) u
set_option maxRecDepth 20000 in
set_option maxHeartbeats 4000000 in
theorem b_test_131 (X : kX p m c cX12_test 4 s args D ca) (hRf : 4 ≤ R.frames) (hRl : 85 ≤ R.locals) {Q : iST → Prop} (hret : ∀ (u : iST) (H : Heap) (locs : List Loc) (ls : Array Slot) (pc : Nat), Q u → kW D ca A h0 ad H0 H locs u → decode cX12_test pc = .ok (.return_, 1) → W p l e R s m args below meth c H locs 0 0 Qf (F0 m pc ls [])) {x1 y2 y3 : Int} (rx1 : inR x1) (ry2 : inR y2) (ry3 : inR y3) (hw : kW D ca A h0 ad H0 H locs u) (hl : lv_has ls 4 [(0, .ref h0), (1, .int (jI x1))]) (h : w_test_131 Q x1 y2 y3 u) : W p l e R s m args below meth c H locs 0 0 Qf (F0 m 131 ls [.int (jI y3), .int (jI y2), .ref (h0), .ref (h0)]) := by
  have hx := X.1.1
  have hb := X.1.2.1
  unfold w_test_131 at h
  refine kcI (n := 2) (c_term ry2 ry3 h) G_term E_term X hw (Nat.le_trans (Nat.le_of_ble_eq_true rfl) hRf) (Nat.le_trans (Nat.le_of_ble_eq_true rfl) hRl) rfl hl.1 (Nat.le_of_ble_eq_true rfl) rfl dX12_test_131 (fun v10 u H locs rv10 h hw => ?_)
  refine lv_aload_n hx hb dX12_test_134 rfl (lv_at hl 0 rfl) ?_
  refine gA 93 193 (by decide) L_93 (fun _ _ => mF_93) rfl X hw dX12_test_135 ?_
  refine lv_iload_n hx hb dX12_test_138 rfl (lv_at hl 1 rfl) ?_
  refine aZ 93 57 56 60 (fun _ _ _ _ => mG_93) (fun _ => rfl) (by decide) X hw rx1 dX12_test_139 rfl h (fun v11 rv11 h => ?_)
  refine kcV (n := 2) (c_beginJob rv10 (bz_in rv11) h) G_beginJob E_beginJob X hw (Nat.le_trans (Nat.le_of_ble_eq_true rfl) hRf) (Nat.le_trans (Nat.le_of_ble_eq_true rfl) hRl) rfl hl.1 (Nat.le_of_ble_eq_true rfl) rfl dX12_test_140 (fun u H locs h hw => ?_)
  exact hret _ _ _ _ _ h hw dX12_test_143

def w_test_98 (Q : iST → Prop) (x1 : Int) (x2 : Int) (x3 : Int) (y1 : Int) (y3 : Int) (y4 : Int) (u : iST) : Prop :=
  w_term y3 y4 (fun v7 u => 
  bd y1 60 (sw (iA u 97 y1 v7) (fun u => 
  bd x1 60 (rd (u.2.1 95 x1) (fun v8 => 
  w_push v8 (fun u => 
  bd x1 60 (sw (iA u 94 x1 3) (fun u => 
  br (x3 = 0) (
    w_test_131 Q x1 x2 2 u) (
    w_test_131 Q x1 x2 3 u)))) u))))) u
set_option maxRecDepth 20000 in
set_option maxHeartbeats 4000000 in
theorem b_test_98 (X : kX p m c cX12_test 4 s args D ca) (hRf : 4 ≤ R.frames) (hRl : 85 ≤ R.locals) {Q : iST → Prop} (hret : ∀ (u : iST) (H : Heap) (locs : List Loc) (ls : Array Slot) (pc : Nat), Q u → kW D ca A h0 ad H0 H locs u → decode cX12_test pc = .ok (.return_, 1) → W p l e R s m args below meth c H locs 0 0 Qf (F0 m pc ls [])) {x1 x2 x3 y1 y3 y4 : Int} (rx1 : inR x1) (rx2 : inR x2) (rx3 : inR x3) (ry1 : inR y1) (ry3 : inR y3) (ry4 : inR y4) (hw : kW D ca A h0 ad H0 H locs u) (hl : lv_has ls 4 [(0, .ref h0), (1, .int (jI x1)), (2, .int (jI x2)), (3, .int (jI x3))]) (h : w_test_98 Q x1 x2 x3 y1 y3 y4 u) : W p l e R s m args below meth c H locs 0 0 Qf (F0 m 98 ls [.int (jI y4), .int (jI y3), .ref (h0), .int (jI y1), .ref (ad 97)]) := by
  have hx := X.1.1
  have hb := X.1.2.1
  unfold w_test_98 at h
  refine kcI (n := 2) (c_term ry3 ry4 h) G_term E_term X hw (Nat.le_trans (Nat.le_of_ble_eq_true rfl) hRf) (Nat.le_trans (Nat.le_of_ble_eq_true rfl) hRl) rfl hl.1 (Nat.le_of_ble_eq_true rfl) rfl dX12_test_98 (fun v7 u H locs rv7 h hw => ?_)
  refine aS 97 61 60 60 (fun _ _ _ _ => mG_97) (fun _ => rfl) (fun _ _ _ _ _ _ => mSA_97) (by decide) X hw ry1 rv7 dX12_test_101 rfl h (fun H locs u hw h => ?_)
  refine lv_aload_n hx hb dX12_test_102 rfl (lv_at hl 0 rfl) ?_
  refine lv_aload_n hx hb dX12_test_103 rfl (lv_at hl 0 rfl) ?_
  refine gA 95 199 (by decide) L_95 (fun _ _ => mF_95) rfl X hw dX12_test_104 ?_
  refine lv_iload_n hx hb dX12_test_107 rfl (lv_at hl 1 rfl) ?_
  refine aL 95 59 58 60 (fun _ _ _ _ => mG_95) (fun _ => rfl) X hw rx1 dX12_test_108 rfl h (fun v8 rv8 h => ?_)
  refine kcV (n := 1) (c_push rv8 h) G_push E_push X hw (Nat.le_trans (Nat.le_of_ble_eq_true rfl) hRf) (Nat.le_trans (Nat.le_of_ble_eq_true rfl) hRl) rfl hl.1 (Nat.le_of_ble_eq_true rfl) rfl dX12_test_109 (fun u H locs h hw => ?_)
  refine lv_aload_n hx hb dX12_test_112 rfl (lv_at hl 0 rfl) ?_
  refine gA 94 196 (by decide) L_94 (fun _ _ => mF_94) rfl X hw dX12_test_113 ?_
  refine lv_iload_n hx hb dX12_test_116 rfl (lv_at hl 1 rfl) ?_
  refine lv_iconst hx hb dX12_test_117 (v := jI 3) rfl ?_
  refine aS 94 58 57 60 (fun _ _ _ _ => mG_94) (fun _ => rfl) (fun _ _ _ _ _ _ => mSA_94) (by decide) X hw rx1 (by decide) dX12_test_118 rfl h (fun H locs u hw h => ?_)
  refine lv_aload_n hx hb dX12_test_119 rfl (lv_at hl 0 rfl) ?_
  refine lv_aload_n hx hb dX12_test_120 rfl (lv_at hl 0 rfl) ?_
  refine lv_iload_n hx hb dX12_test_121 rfl (lv_at hl 2 rfl) ?_
  refine lv_iload_n hx hb dX12_test_122 rfl (lv_at hl 3 rfl) ?_
  refine k_if_eq hx hb rx3 dX12_test_123 (tgt := 130) rfl h (fun h => ?_) (fun h => ?_)
  · refine lv_iconst hx hb dX12_test_130 (v := jI 2) rfl ?_
    exact b_test_131 X hRf hRl hret rx1 rx2 (by decide) hw (lv_sub hl [0, 1] rfl) h
  · refine lv_iconst hx hb dX12_test_126 (v := jI 3) rfl ?_
    refine lv_goto hx hb dX12_test_127 (tgt := 131) rfl ?_
    exact b_test_131 X hRf hRl hret rx1 rx2 (by decide) hw (lv_sub hl [0, 1] rfl) h

def w_test_81 (Q : iST → Prop) (x1 : Int) (x2 : Int) (x3 : Int) (y1 : Int) (y2 : Int) (u : iST) : Prop :=
  bd y1 60 (sw (iA u 95 y1 y2) (fun u => 
  br (x3 = 0) (
    w_test_98 Q x1 x2 x3 x1 x2 3 u) (
    w_test_98 Q x1 x2 x3 x1 x2 2 u)))
set_option maxRecDepth 20000 in
set_option maxHeartbeats 4000000 in
theorem b_test_81 (X : kX p m c cX12_test 4 s args D ca) (hRf : 4 ≤ R.frames) (hRl : 85 ≤ R.locals) {Q : iST → Prop} (hret : ∀ (u : iST) (H : Heap) (locs : List Loc) (ls : Array Slot) (pc : Nat), Q u → kW D ca A h0 ad H0 H locs u → decode cX12_test pc = .ok (.return_, 1) → W p l e R s m args below meth c H locs 0 0 Qf (F0 m pc ls [])) {x1 x2 x3 y1 y2 : Int} (rx1 : inR x1) (rx2 : inR x2) (rx3 : inR x3) (ry1 : inR y1) (ry2 : inR y2) (hw : kW D ca A h0 ad H0 H locs u) (hl : lv_has ls 4 [(0, .ref h0), (1, .int (jI x1)), (2, .int (jI x2)), (3, .int (jI x3))]) (h : w_test_81 Q x1 x2 x3 y1 y2 u) : W p l e R s m args below meth c H locs 0 0 Qf (F0 m 81 ls [.int (jI y2), .int (jI y1), .ref (ad 95)]) := by
  have hx := X.1.1
  have hb := X.1.2.1
  unfold w_test_81 at h
  refine aS 95 59 58 60 (fun _ _ _ _ => mG_95) (fun _ => rfl) (fun _ _ _ _ _ _ => mSA_95) (by decide) X hw ry1 ry2 dX12_test_81 rfl h (fun H locs u hw h => ?_)
  refine lv_aload_n hx hb dX12_test_82 rfl (lv_at hl 0 rfl) ?_
  refine gA 97 205 (by decide) L_97 (fun _ _ => mF_97) rfl X hw dX12_test_83 ?_
  refine lv_iload_n hx hb dX12_test_86 rfl (lv_at hl 1 rfl) ?_
  refine lv_aload_n hx hb dX12_test_87 rfl (lv_at hl 0 rfl) ?_
  refine lv_iload_n hx hb dX12_test_88 rfl (lv_at hl 2 rfl) ?_
  refine lv_iload_n hx hb dX12_test_89 rfl (lv_at hl 3 rfl) ?_
  refine k_if_eq hx hb rx3 dX12_test_90 (tgt := 97) rfl h (fun h => ?_) (fun h => ?_)
  · refine lv_iconst hx hb dX12_test_97 (v := jI 3) rfl ?_
    exact b_test_98 X hRf hRl hret rx1 rx2 rx3 rx1 rx2 (by decide) hw hl h
  · refine lv_iconst hx hb dX12_test_93 (v := jI 2) rfl ?_
    refine lv_goto hx hb dX12_test_94 (tgt := 98) rfl ?_
    exact b_test_98 X hRf hRl hret rx1 rx2 rx3 rx1 rx2 (by decide) hw hl h

def w_test_33 (Q : iST → Prop) (y2 : Int) (y3 : Int) (u : iST) : Prop :=
  w_term y2 y3 (fun v17 u => 
  w_passOn v17 (fun u => 
  Q u) u) u
set_option maxRecDepth 20000 in
set_option maxHeartbeats 4000000 in
theorem b_test_33 (X : kX p m c cX12_test 4 s args D ca) (hRf : 4 ≤ R.frames) (hRl : 85 ≤ R.locals) {Q : iST → Prop} (hret : ∀ (u : iST) (H : Heap) (locs : List Loc) (ls : Array Slot) (pc : Nat), Q u → kW D ca A h0 ad H0 H locs u → decode cX12_test pc = .ok (.return_, 1) → W p l e R s m args below meth c H locs 0 0 Qf (F0 m pc ls [])) {y2 y3 : Int} (ry2 : inR y2) (ry3 : inR y3) (hw : kW D ca A h0 ad H0 H locs u) (hl : lv_has ls 4 [(0, .ref h0)]) (h : w_test_33 Q y2 y3 u) : W p l e R s m args below meth c H locs 0 0 Qf (F0 m 33 ls [.int (jI y3), .int (jI y2), .ref (h0), .ref (h0)]) := by
  have hx := X.1.1
  have hb := X.1.2.1
  unfold w_test_33 at h
  refine kcI (n := 2) (c_term ry2 ry3 h) G_term E_term X hw (Nat.le_trans (Nat.le_of_ble_eq_true rfl) hRf) (Nat.le_trans (Nat.le_of_ble_eq_true rfl) hRl) rfl hl.1 (Nat.le_of_ble_eq_true rfl) rfl dX12_test_33 (fun v17 u H locs rv17 h hw => ?_)
  refine kcV (n := 1) (c_passOn rv17 h) G_passOn E_passOn X hw (Nat.le_trans (Nat.le_of_ble_eq_true rfl) hRf) (Nat.le_trans (Nat.le_of_ble_eq_true rfl) hRl) rfl hl.1 (Nat.le_of_ble_eq_true rfl) rfl dX12_test_36 (fun u H locs h hw => ?_)
  exact hret _ _ _ _ _ h hw dX12_test_39

def w_test (a0 : Int) (Q : iST → Prop) (u : iST) : Prop :=
  bd a0 60 (rd (u.2.1 92 a0) (fun v1 => 
  rd (u.1 110) (fun v2 => 
  w_isConstant v2 (fun v3 u => 
  br (v3 = 0) (
    rd (u.1 110) (fun v4 => 
    w_isCallOf v4 15 (fun v5 u => 
    br (v5 = 0) (
      rd (u.1 110) (fun v6 => 
      w_test_81 Q a0 v1 v5 a0 v6 u)) (
      rd (u.1 110) (fun v13 => 
      bd v13 452000 (rd (u.2.1 1 v13) (fun v14 => 
      bd v14 452000 (rd (u.2.1 0 v14) (fun v15 => 
      w_test_81 Q a0 v1 v5 a0 v15 u))))))) u)) (
    rd (u.1 110) (fun v16 => 
    br (v16 ≠ 0) (
      w_test_33 Q v1 2 u) (
      w_test_33 Q v1 3 u)))) u)))
set_option maxRecDepth 20000 in
set_option maxHeartbeats 4000000 in
theorem b_test_s (X : kX p m c cX12_test 4 s args D ca) (hRf : 4 ≤ R.frames) (hRl : 85 ≤ R.locals) {Q : iST → Prop} (hret : ∀ (u : iST) (H : Heap) (locs : List Loc) (ls : Array Slot) (pc : Nat), Q u → kW D ca A h0 ad H0 H locs u → decode cX12_test pc = .ok (.return_, 1) → W p l e R s m args below meth c H locs 0 0 Qf (F0 m pc ls [])) {a0 : Int} (ra0 : inR a0) (hw : kW D ca A h0 ad H0 H locs u) (hl : lv_has ls 4 [(0, .ref h0), (1, .int (jI a0))]) (h : w_test a0 Q u) : W p l e R s m args below meth c H locs 0 0 Qf (F0 m 0 ls []) := by
  have hx := X.1.1
  have hb := X.1.2.1
  unfold w_test at h
  refine lv_aload_n hx hb dX12_test_0 rfl (lv_at hl 0 rfl) ?_
  refine gA 92 190 (by decide) L_92 (fun _ _ => mF_92) rfl X hw dX12_test_1 ?_
  refine lv_iload_n hx hb dX12_test_4 rfl (lv_at hl 1 rfl) ?_
  refine aL 92 56 55 60 (fun _ _ _ _ => mG_92) (fun _ => rfl) X hw ra0 dX12_test_5 rfl h (fun v1 rv1 h => ?_)
  refine lv_istore_n hx hb dX12_test_6 rfl hl (by decide) rfl (fun ls hl => ?_)
  have hl : lv_has ls 4 [(2, .int (jI v1)), (0, .ref (h0)), (1, .int (jI a0))] := hl
  refine lv_aload_n hx hb dX12_test_7 rfl (lv_at hl 1 rfl) ?_
  refine lv_aload_n hx hb dX12_test_8 rfl (lv_at hl 1 rfl) ?_
  refine gS 110 618 (by decide) L_110 (fun _ _ => mF_110) rfl X hw dX12_test_9 h (fun v2 rv2 h => ?_)
  refine kcI (n := 1) (c_isConstant rv2 h) G_isConstant E_isConstant X hw (Nat.le_trans (Nat.le_of_ble_eq_true rfl) hRf) (Nat.le_trans (Nat.le_of_ble_eq_true rfl) hRl) rfl hl.1 (Nat.le_of_ble_eq_true rfl) rfl dX12_test_12 (fun v3 u H locs rv3 h hw => ?_)
  refine k_if_eq hx hb rv3 dX12_test_15 (tgt := 40) rfl h (fun h => ?_) (fun h => ?_)
  · refine lv_aload_n hx hb dX12_test_40 rfl (lv_at hl 1 rfl) ?_
    refine lv_aload_n hx hb dX12_test_41 rfl (lv_at hl 1 rfl) ?_
    refine gS 110 618 (by decide) L_110 (fun _ _ => mF_110) rfl X hw dX12_test_42 h (fun v4 rv4 h => ?_)
    refine lv_bipush hx hb dX12_test_45 (v := jI 15) rfl ?_
    refine kcI (n := 2) (c_isCallOf rv4 (by decide) h) G_isCallOf E_isCallOf X hw (Nat.le_trans (Nat.le_of_ble_eq_true rfl) hRf) (Nat.le_trans (Nat.le_of_ble_eq_true rfl) hRl) rfl hl.1 (Nat.le_of_ble_eq_true rfl) rfl dX12_test_47 (fun v5 u H locs rv5 h hw => ?_)
    refine lv_istore_n hx hb dX12_test_50 rfl hl (by decide) rfl (fun ls hl => ?_)
    have hl : lv_has ls 4 [(3, .int (jI v5)), (2, .int (jI v1)), (0, .ref (h0)), (1, .int (jI a0))] := hl
    refine lv_aload_n hx hb dX12_test_51 rfl (lv_at hl 2 rfl) ?_
    refine gA 95 199 (by decide) L_95 (fun _ _ => mF_95) rfl X hw dX12_test_52 ?_
    refine lv_iload_n hx hb dX12_test_55 rfl (lv_at hl 3 rfl) ?_
    refine lv_iload_n hx hb dX12_test_56 rfl (lv_at hl 0 rfl) ?_
    refine k_if_eq hx hb rv5 dX12_test_57 (tgt := 77) rfl h (fun h => ?_) (fun h => ?_)
    · refine lv_aload_n hx hb dX12_test_77 rfl (lv_at hl 2 rfl) ?_
      refine gS 110 618 (by decide) L_110 (fun _ _ => mF_110) rfl X hw dX12_test_78 h (fun v6 rv6 h => ?_)
      exact b_test_81 X hRf hRl hret ra0 rv1 rv5 ra0 rv6 hw (lv_sub hl [2, 3, 1, 0] rfl) h
    · refine lv_aload_n hx hb dX12_test_60 rfl (lv_at hl 2 rfl) ?_
      refine gA 0 8 (by decide) L_0 (fun _ _ => mF_0) rfl X hw dX12_test_61 ?_
      refine lv_aload_n hx hb dX12_test_64 rfl (lv_at hl 2 rfl) ?_
      refine gA 1 14 (by decide) L_1 (fun _ _ => mF_1) rfl X hw dX12_test_65 ?_
      refine lv_aload_n hx hb dX12_test_68 rfl (lv_at hl 2 rfl) ?_
      refine gS 110 618 (by decide) L_110 (fun _ _ => mF_110) rfl X hw dX12_test_69 h (fun v13 rv13 h => ?_)
      refine aL 1 2 1 452000 (fun _ _ _ _ => mG_1) (fun _ => rfl) X hw rv13 dX12_test_72 rfl h (fun v14 rv14 h => ?_)
      refine aL 0 1 0 452000 (fun _ _ _ _ => mG_0) (fun _ => rfl) X hw rv14 dX12_test_73 rfl h (fun v15 rv15 h => ?_)
      refine lv_goto hx hb dX12_test_74 (tgt := 81) rfl ?_
      exact b_test_81 X hRf hRl hret ra0 rv1 rv5 ra0 rv15 hw (lv_sub hl [2, 3, 1, 0] rfl) h
  · refine lv_aload_n hx hb dX12_test_18 rfl (lv_at hl 1 rfl) ?_
    refine lv_aload_n hx hb dX12_test_19 rfl (lv_at hl 1 rfl) ?_
    refine lv_iload_n hx hb dX12_test_20 rfl (lv_at hl 0 rfl) ?_
    refine lv_aload_n hx hb dX12_test_21 rfl (lv_at hl 1 rfl) ?_
    refine gS 110 618 (by decide) L_110 (fun _ _ => mF_110) rfl X hw dX12_test_22 h (fun v16 rv16 h => ?_)
    refine k_if_ne hx hb rv16 dX12_test_25 (tgt := 32) rfl h (fun h => ?_) (fun h => ?_)
    · refine lv_iconst hx hb dX12_test_32 (v := jI 2) rfl ?_
      exact b_test_33 X hRf hRl hret rv1 (by decide) hw (lv_sub hl [1] rfl) h
    · refine lv_iconst hx hb dX12_test_28 (v := jI 3) rfl ?_
      refine lv_goto hx hb dX12_test_29 (tgt := 33) rfl ?_
      exact b_test_33 X hRf hRl hret rv1 (by decide) hw (lv_sub hl [1] rfl) h

end
theorem c_test {l : Launch} {a0 : Int} (ra0 : inR a0) {Q : iST → Prop} {u : iST} (h : w_test a0 Q u) : kMV l yX12_test (.code yX12_test cX12_test 4 none :: wsM) { frames := 4, cells := 0, slots := 0, locals := 85 } [.int (jI a0)] Q u := kMV_of rfl (fun _ => Nat.le_of_ble_eq_true rfl) (fun X hRf hRl hret hw hl => b_test_s X hRf hRl hret ra0 hw hl h)

/-! join -/
theorem dX12_join_0 : decode cX12_join 0 = .ok (.iload_n 3, 1) := by decide +kernel
theorem dX12_join_1 : decode cX12_join 1 = .ok (.iload 4, 2) := by decide +kernel
theorem dX12_join_3 : decode cX12_join 3 = .ok (.if_icmp .ne 11, 3) := by decide +kernel
theorem dX12_join_6 : decode cX12_join 6 = .ok (.aload_n 0, 1) := by decide +kernel
theorem dX12_join_7 : decode cX12_join 7 = .ok (.iload_n 3, 1) := by decide +kernel
theorem dX12_join_8 : decode cX12_join 8 = .ok (.invokevirtual 637, 3) := by decide +kernel
theorem dX12_join_11 : decode cX12_join 11 = .ok (.goto 77, 3) := by decide +kernel
theorem dX12_join_14 : decode cX12_join 14 = .ok (.iload_n 3, 1) := by decide +kernel
theorem dX12_join_15 : decode cX12_join 15 = .ok (.iconst 1, 1) := by decide +kernel
theorem dX12_join_16 : decode cX12_join 16 = .ok (.if_icmp .ne 33, 3) := by decide +kernel
theorem dX12_join_19 : decode cX12_join 19 = .ok (.iload 4, 2) := by decide +kernel
theorem dX12_join_21 : decode cX12_join 21 = .ok (.ifCond .ne 28, 3) := by decide +kernel
theorem dX12_join_24 : decode cX12_join 24 = .ok (.aload_n 0, 1) := by decide +kernel
theorem dX12_join_25 : decode cX12_join 25 = .ok (.getfield 193, 3) := by decide +kernel
theorem dX12_join_28 : decode cX12_join 28 = .ok (.iload_n 1, 1) := by decide +kernel
theorem dX12_join_29 : decode cX12_join 29 = .ok (.baload, 1) := by decide +kernel
theorem dX12_join_30 : decode cX12_join 30 = .ok (.ifCond .ne 11, 3) := by decide +kernel
theorem dX12_join_33 : decode cX12_join 33 = .ok (.aload_n 0, 1) := by decide +kernel
theorem dX12_join_34 : decode cX12_join 34 = .ok (.iload_n 2, 1) := by decide +kernel
theorem dX12_join_35 : decode cX12_join 35 = .ok (.invokevirtual 631, 3) := by decide +kernel
theorem dX12_join_38 : decode cX12_join 38 = .ok (.ifCond .eq 11, 3) := by decide +kernel
theorem dX12_join_41 : decode cX12_join 41 = .ok (.aload_n 0, 1) := by decide +kernel
theorem dX12_join_42 : decode cX12_join 42 = .ok (.iload_n 2, 1) := by decide +kernel
theorem dX12_join_43 : decode cX12_join 43 = .ok (.invokevirtual 637, 3) := by decide +kernel
theorem dX12_join_46 : decode cX12_join 46 = .ok (.goto 42, 3) := by decide +kernel
theorem dX12_join_49 : decode cX12_join 49 = .ok (.iload_n 3, 1) := by decide +kernel
theorem dX12_join_50 : decode cX12_join 50 = .ok (.ifCond .ne 25, 3) := by decide +kernel
theorem dX12_join_53 : decode cX12_join 53 = .ok (.iload 4, 2) := by decide +kernel
theorem dX12_join_55 : decode cX12_join 55 = .ok (.iconst 1, 1) := by decide +kernel
theorem dX12_join_56 : decode cX12_join 56 = .ok (.if_icmp .ne 19, 3) := by decide +kernel
theorem dX12_join_59 : decode cX12_join 59 = .ok (.aload_n 0, 1) := by decide +kernel
theorem dX12_join_60 : decode cX12_join 60 = .ok (.aload_n 0, 1) := by decide +kernel
theorem dX12_join_61 : decode cX12_join 61 = .ok (.bipush 15, 2) := by decide +kernel
theorem dX12_join_63 : decode cX12_join 63 = .ok (.iload_n 2, 1) := by decide +kernel
theorem dX12_join_64 : decode cX12_join 64 = .ok (.iconst (-1), 1) := by decide +kernel
theorem dX12_join_65 : decode cX12_join 65 = .ok (.iconst (-1), 1) := by decide +kernel
theorem dX12_join_66 : decode cX12_join 66 = .ok (.invokevirtual 538, 3) := by decide +kernel
theorem dX12_join_69 : decode cX12_join 69 = .ok (.invokevirtual 637, 3) := by decide +kernel
theorem dX12_join_72 : decode cX12_join 72 = .ok (.goto 16, 3) := by decide +kernel
theorem dX12_join_75 : decode cX12_join 75 = .ok (.aload_n 0, 1) := by decide +kernel
theorem dX12_join_76 : decode cX12_join 76 = .ok (.aload_n 0, 1) := by decide +kernel
theorem dX12_join_77 : decode cX12_join 77 = .ok (.iconst 3, 1) := by decide +kernel
theorem dX12_join_78 : decode cX12_join 78 = .ok (.iload_n 2, 1) := by decide +kernel
theorem dX12_join_79 : decode cX12_join 79 = .ok (.iload_n 3, 1) := by decide +kernel
theorem dX12_join_80 : decode cX12_join 80 = .ok (.iload 4, 2) := by decide +kernel
theorem dX12_join_82 : decode cX12_join 82 = .ok (.invokevirtual 538, 3) := by decide +kernel
theorem dX12_join_85 : decode cX12_join 85 = .ok (.invokevirtual 637, 3) := by decide +kernel
theorem dX12_join_88 : decode cX12_join 88 = .ok (.return_, 1) := by decide +kernel

section
variable {p : Program} {l : Launch} {e : Env} {R : Room} {s : State} {m : MethodId} {args : Array Value} {below : List Frame} {meth : Method} {c : Code} {H : Heap} {locs : List Loc} {Qf : State → Prop}
variable {ls : Array Slot} {D : va_G} {ca : Nat → ClassId} {A : Nat → Prop} {h0 : Nat} {ad : Nat → Nat} {H0 : Heap} {u : iST}
def w_join_75 (Q : iST → Prop) (x2 : Int) (x3 : Int) (x4 : Int) (u : iST) : Prop :=
  w_made 3 x2 x3 x4 (fun v1 u => 
  w_end0 v1 (fun u => 
  Q u) u) u
set_option maxRecDepth 20000 in
set_option maxHeartbeats 4000000 in
theorem b_join_75 (X : kX p m c cX12_join 5 s args D ca) (hRf : 5 ≤ R.frames) (hRl : 114 ≤ R.locals) {Q : iST → Prop} (hret : ∀ (u : iST) (H : Heap) (locs : List Loc) (ls : Array Slot) (pc : Nat), Q u → kW D ca A h0 ad H0 H locs u → decode cX12_join pc = .ok (.return_, 1) → W p l e R s m args below meth c H locs 0 0 Qf (F0 m pc ls [])) {x2 x3 x4 : Int} (rx2 : inR x2) (rx3 : inR x3) (rx4 : inR x4) (hw : kW D ca A h0 ad H0 H locs u) (hl : lv_has ls 5 [(0, .ref h0), (2, .int (jI x2)), (3, .int (jI x3)), (4, .int (jI x4))]) (h : w_join_75 Q x2 x3 x4 u) : W p l e R s m args below meth c H locs 0 0 Qf (F0 m 75 ls []) := by
  have hx := X.1.1
  have hb := X.1.2.1
  unfold w_join_75 at h
  refine lv_aload_n hx hb dX12_join_75 rfl (lv_at hl 0 rfl) ?_
  refine lv_aload_n hx hb dX12_join_76 rfl (lv_at hl 0 rfl) ?_
  refine lv_iconst hx hb dX12_join_77 (v := jI 3) rfl ?_
  refine lv_iload_n hx hb dX12_join_78 rfl (lv_at hl 1 rfl) ?_
  refine lv_iload_n hx hb dX12_join_79 rfl (lv_at hl 2 rfl) ?_
  refine lv_iload hx hb dX12_join_80 (lv_at hl 3 rfl) ?_
  refine kcI (n := 4) (c_made (by decide) rx2 rx3 rx4 h) G_made E_made X hw (Nat.le_trans (Nat.le_of_ble_eq_true rfl) hRf) (Nat.le_trans (Nat.le_of_ble_eq_true rfl) hRl) rfl hl.1 (Nat.le_of_ble_eq_true rfl) rfl dX12_join_82 (fun v1 u H locs rv1 h hw => ?_)
  refine kcV (n := 1) (c_end0 rv1 h) G_end0 E_end0 X hw (Nat.le_trans (Nat.le_of_ble_eq_true rfl) hRf) (Nat.le_trans (Nat.le_of_ble_eq_true rfl) hRl) rfl hl.1 (Nat.le_of_ble_eq_true rfl) rfl dX12_join_85 (fun u H locs h hw => ?_)
  exact hret _ _ _ _ _ h hw dX12_join_88

def w_join_49 (Q : iST → Prop) (x2 : Int) (x3 : Int) (x4 : Int) (u : iST) : Prop :=
  br (x3 ≠ 0) (
    w_join_75 Q x2 x3 x4 u) (
    br (x4 ≠ 1) (
      w_join_75 Q x2 x3 x4 u) (
      w_made 15 x2 (-1) (-1) (fun v3 u => 
      w_end0 v3 (fun u => 
      Q u) u) u))
set_option maxRecDepth 20000 in
set_option maxHeartbeats 4000000 in
theorem b_join_49 (X : kX p m c cX12_join 5 s args D ca) (hRf : 5 ≤ R.frames) (hRl : 114 ≤ R.locals) {Q : iST → Prop} (hret : ∀ (u : iST) (H : Heap) (locs : List Loc) (ls : Array Slot) (pc : Nat), Q u → kW D ca A h0 ad H0 H locs u → decode cX12_join pc = .ok (.return_, 1) → W p l e R s m args below meth c H locs 0 0 Qf (F0 m pc ls [])) {x2 x3 x4 : Int} (rx2 : inR x2) (rx3 : inR x3) (rx4 : inR x4) (hw : kW D ca A h0 ad H0 H locs u) (hl : lv_has ls 5 [(0, .ref h0), (2, .int (jI x2)), (3, .int (jI x3)), (4, .int (jI x4))]) (h : w_join_49 Q x2 x3 x4 u) : W p l e R s m args below meth c H locs 0 0 Qf (F0 m 49 ls []) := by
  have hx := X.1.1
  have hb := X.1.2.1
  unfold w_join_49 at h
  refine lv_iload_n hx hb dX12_join_49 rfl (lv_at hl 2 rfl) ?_
  refine k_if_ne hx hb rx3 dX12_join_50 (tgt := 75) rfl h (fun h => ?_) (fun h => ?_)
  · exact b_join_75 X hRf hRl hret rx2 rx3 rx4 hw hl h
  · refine lv_iload hx hb dX12_join_53 (lv_at hl 3 rfl) ?_
    refine lv_iconst hx hb dX12_join_55 (v := jI 1) rfl ?_
    refine k_icmp_ne hx hb rx4 (by decide) dX12_join_56 (tgt := 75) rfl h (fun h => ?_) (fun h => ?_)
    · exact b_join_75 X hRf hRl hret rx2 rx3 rx4 hw hl h
    · refine lv_aload_n hx hb dX12_join_59 rfl (lv_at hl 0 rfl) ?_
      refine lv_aload_n hx hb dX12_join_60 rfl (lv_at hl 0 rfl) ?_
      refine lv_bipush hx hb dX12_join_61 (v := jI 15) rfl ?_
      refine lv_iload_n hx hb dX12_join_63 rfl (lv_at hl 1 rfl) ?_
      refine lv_iconst hx hb dX12_join_64 (v := jI (-1)) rfl ?_
      refine lv_iconst hx hb dX12_join_65 (v := jI (-1)) rfl ?_
      refine kcI (n := 4) (c_made (by decide) rx2 (by decide) (by decide) h) G_made E_made X hw (Nat.le_trans (Nat.le_of_ble_eq_true rfl) hRf) (Nat.le_trans (Nat.le_of_ble_eq_true rfl) hRl) rfl hl.1 (Nat.le_of_ble_eq_true rfl) rfl dX12_join_66 (fun v3 u H locs rv3 h hw => ?_)
      refine kcV (n := 1) (c_end0 rv3 h) G_end0 E_end0 X hw (Nat.le_trans (Nat.le_of_ble_eq_true rfl) hRf) (Nat.le_trans (Nat.le_of_ble_eq_true rfl) hRl) rfl hl.1 (Nat.le_of_ble_eq_true rfl) rfl dX12_join_69 (fun u H locs h hw => ?_)
      refine lv_goto hx hb dX12_join_72 (tgt := 88) rfl ?_
      exact hret _ _ _ _ _ h hw dX12_join_88

def w_join_41 (Q : iST → Prop) (x2 : Int) (u : iST) : Prop :=
  w_end0 x2 (fun u => 
  Q u) u
set_option maxRecDepth 20000 in
set_option maxHeartbeats 4000000 in
theorem b_join_41 (X : kX p m c cX12_join 5 s args D ca) (hRf : 5 ≤ R.frames) (hRl : 114 ≤ R.locals) {Q : iST → Prop} (hret : ∀ (u : iST) (H : Heap) (locs : List Loc) (ls : Array Slot) (pc : Nat), Q u → kW D ca A h0 ad H0 H locs u → decode cX12_join pc = .ok (.return_, 1) → W p l e R s m args below meth c H locs 0 0 Qf (F0 m pc ls [])) {x2 : Int} (rx2 : inR x2) (hw : kW D ca A h0 ad H0 H locs u) (hl : lv_has ls 5 [(0, .ref h0), (2, .int (jI x2))]) (h : w_join_41 Q x2 u) : W p l e R s m args below meth c H locs 0 0 Qf (F0 m 41 ls []) := by
  have hx := X.1.1
  have hb := X.1.2.1
  unfold w_join_41 at h
  refine lv_aload_n hx hb dX12_join_41 rfl (lv_at hl 0 rfl) ?_
  refine lv_iload_n hx hb dX12_join_42 rfl (lv_at hl 1 rfl) ?_
  refine kcV (n := 1) (c_end0 rx2 h) G_end0 E_end0 X hw (Nat.le_trans (Nat.le_of_ble_eq_true rfl) hRf) (Nat.le_trans (Nat.le_of_ble_eq_true rfl) hRl) rfl hl.1 (Nat.le_of_ble_eq_true rfl) rfl dX12_join_43 (fun u H locs h hw => ?_)
  refine lv_goto hx hb dX12_join_46 (tgt := 88) rfl ?_
  exact hret _ _ _ _ _ h hw dX12_join_88

def w_join (a0 : Int) (a1 : Int) (a2 : Int) (a3 : Int) (Q : iST → Prop) (u : iST) : Prop :=
  br (a2 ≠ a3) (
    br (a2 ≠ 1) (
      w_join_49 Q a1 a2 a3 u) (
      br (a3 ≠ 0) (
        w_join_49 Q a1 a2 a3 u) (
        bd a0 60 (rz (u.2.1 93 a0) (fun v5 => 
        br (v5 ≠ 0) (
          w_join_41 Q a1 u) (
          w_isBoolean a1 (fun v7 u => 
          br (v7 = 0) (
            w_join_49 Q a1 a2 a3 u) (
            w_join_41 Q a1 u)) u)))))) (
    w_end0 a2 (fun u => 
    Q u) u)
set_option maxRecDepth 20000 in
set_option maxHeartbeats 4000000 in
theorem b_join_s (X : kX p m c cX12_join 5 s args D ca) (hRf : 5 ≤ R.frames) (hRl : 114 ≤ R.locals) {Q : iST → Prop} (hret : ∀ (u : iST) (H : Heap) (locs : List Loc) (ls : Array Slot) (pc : Nat), Q u → kW D ca A h0 ad H0 H locs u → decode cX12_join pc = .ok (.return_, 1) → W p l e R s m args below meth c H locs 0 0 Qf (F0 m pc ls [])) {a0 a1 a2 a3 : Int} (ra0 : inR a0) (ra1 : inR a1) (ra2 : inR a2) (ra3 : inR a3) (hw : kW D ca A h0 ad H0 H locs u) (hl : lv_has ls 5 [(0, .ref h0), (1, .int (jI a0)), (2, .int (jI a1)), (3, .int (jI a2)), (4, .int (jI a3))]) (h : w_join a0 a1 a2 a3 Q u) : W p l e R s m args below meth c H locs 0 0 Qf (F0 m 0 ls []) := by
  have hx := X.1.1
  have hb := X.1.2.1
  unfold w_join at h
  refine lv_iload_n hx hb dX12_join_0 rfl (lv_at hl 3 rfl) ?_
  refine lv_iload hx hb dX12_join_1 (lv_at hl 4 rfl) ?_
  refine k_icmp_ne hx hb ra2 ra3 dX12_join_3 (tgt := 14) rfl h (fun h => ?_) (fun h => ?_)
  · refine lv_iload_n hx hb dX12_join_14 rfl (lv_at hl 3 rfl) ?_
    refine lv_iconst hx hb dX12_join_15 (v := jI 1) rfl ?_
    refine k_icmp_ne hx hb ra2 (by decide) dX12_join_16 (tgt := 49) rfl h (fun h => ?_) (fun h => ?_)
    · exact b_join_49 X hRf hRl hret ra1 ra2 ra3 hw (lv_sub hl [0, 2, 3, 4] rfl) h
    · refine lv_iload hx hb dX12_join_19 (lv_at hl 4 rfl) ?_
      refine k_if_ne hx hb ra3 dX12_join_21 (tgt := 49) rfl h (fun h => ?_) (fun h => ?_)
      · exact b_join_49 X hRf hRl hret ra1 ra2 ra3 hw (lv_sub hl [0, 2, 3, 4] rfl) h
      · refine lv_aload_n hx hb dX12_join_24 rfl (lv_at hl 0 rfl) ?_
        refine gA 93 193 (by decide) L_93 (fun _ _ => mF_93) rfl X hw dX12_join_25 ?_
        refine lv_iload_n hx hb dX12_join_28 rfl (lv_at hl 1 rfl) ?_
        refine aZ 93 57 56 60 (fun _ _ _ _ => mG_93) (fun _ => rfl) (by decide) X hw ra0 dX12_join_29 rfl h (fun v5 rv5 h => ?_)
        refine k_if_ne hx hb (bz_in rv5) dX12_join_30 (tgt := 41) rfl h (fun h => ?_) (fun h => ?_)
        · exact b_join_41 X hRf hRl hret ra1 hw (lv_sub hl [0, 2] rfl) h
        · refine lv_aload_n hx hb dX12_join_33 rfl (lv_at hl 0 rfl) ?_
          refine lv_iload_n hx hb dX12_join_34 rfl (lv_at hl 2 rfl) ?_
          refine kcI (n := 1) (c_isBoolean ra1 h) G_isBoolean E_isBoolean X hw (Nat.le_trans (Nat.le_of_ble_eq_true rfl) hRf) (Nat.le_trans (Nat.le_of_ble_eq_true rfl) hRl) rfl hl.1 (Nat.le_of_ble_eq_true rfl) rfl dX12_join_35 (fun v7 u H locs rv7 h hw => ?_)
          refine k_if_eq hx hb rv7 dX12_join_38 (tgt := 49) rfl h (fun h => ?_) (fun h => ?_)
          · exact b_join_49 X hRf hRl hret ra1 ra2 ra3 hw (lv_sub hl [0, 2, 3, 4] rfl) h
          · exact b_join_41 X hRf hRl hret ra1 hw (lv_sub hl [0, 2] rfl) h
  · refine lv_aload_n hx hb dX12_join_6 rfl (lv_at hl 0 rfl) ?_
    refine lv_iload_n hx hb dX12_join_7 rfl (lv_at hl 3 rfl) ?_
    refine kcV (n := 1) (c_end0 ra2 h) G_end0 E_end0 X hw (Nat.le_trans (Nat.le_of_ble_eq_true rfl) hRf) (Nat.le_trans (Nat.le_of_ble_eq_true rfl) hRl) rfl hl.1 (Nat.le_of_ble_eq_true rfl) rfl dX12_join_8 (fun u H locs h hw => ?_)
    refine lv_goto hx hb dX12_join_11 (tgt := 88) rfl ?_
    exact hret _ _ _ _ _ h hw dX12_join_88

end
theorem c_join {l : Launch} {a0 : Int} {a1 : Int} {a2 : Int} {a3 : Int} (ra0 : inR a0) (ra1 : inR a1) (ra2 : inR a2) (ra3 : inR a3) {Q : iST → Prop} {u : iST} (h : w_join a0 a1 a2 a3 Q u) : kMV l yX12_join (.code yX12_join cX12_join 5 none :: wsM) { frames := 5, cells := 0, slots := 0, locals := 114 } [.int (jI a0), .int (jI a1), .int (jI a2), .int (jI a3)] Q u := kMV_of rfl (fun _ => Nat.le_of_ble_eq_true rfl) (fun X hRf hRl hret hw hl => b_join_s X hRf hRl hret ra0 ra1 ra2 ra3 hw hl h)

/-! takeResult -/
theorem dX12_takeResult_0 : decode cX12_takeResult 0 = .ok (.aload_n 0, 1) := by decide +kernel
theorem dX12_takeResult_1 : decode cX12_takeResult 1 = .ok (.iconst 0, 1) := by decide +kernel
theorem dX12_takeResult_2 : decode cX12_takeResult 2 = .ok (.putfield 609, 3) := by decide +kernel
theorem dX12_takeResult_5 : decode cX12_takeResult 5 = .ok (.aload_n 0, 1) := by decide +kernel
theorem dX12_takeResult_6 : decode cX12_takeResult 6 = .ok (.getfield 196, 3) := by decide +kernel
theorem dX12_takeResult_9 : decode cX12_takeResult 9 = .ok (.iload_n 1, 1) := by decide +kernel
theorem dX12_takeResult_10 : decode cX12_takeResult 10 = .ok (.iaload, 1) := by decide +kernel
theorem dX12_takeResult_11 : decode cX12_takeResult 11 = .ok (.lookupswitch 361 #[(1, 65), (3, 71), (4, 129), (5, 161), (10, 241), (31, 270), (40, 310)], 65) := by decide +kernel
theorem dX12_takeResult_76 : decode cX12_takeResult 76 = .ok (.aload_n 0, 1) := by decide +kernel
theorem dX12_takeResult_77 : decode cX12_takeResult 77 = .ok (.iload_n 1, 1) := by decide +kernel
theorem dX12_takeResult_78 : decode cX12_takeResult 78 = .ok (.invokevirtual 656, 3) := by decide +kernel
theorem dX12_takeResult_81 : decode cX12_takeResult 81 = .ok (.return_, 1) := by decide +kernel
theorem dX12_takeResult_82 : decode cX12_takeResult 82 = .ok (.aload_n 0, 1) := by decide +kernel
theorem dX12_takeResult_83 : decode cX12_takeResult 83 = .ok (.getfield 202, 3) := by decide +kernel
theorem dX12_takeResult_86 : decode cX12_takeResult 86 = .ok (.iload_n 1, 1) := by decide +kernel
theorem dX12_takeResult_87 : decode cX12_takeResult 87 = .ok (.aload_n 0, 1) := by decide +kernel
theorem dX12_takeResult_88 : decode cX12_takeResult 88 = .ok (.getfield 618, 3) := by decide +kernel
theorem dX12_takeResult_91 : decode cX12_takeResult 91 = .ok (.iastore, 1) := by decide +kernel
theorem dX12_takeResult_92 : decode cX12_takeResult 92 = .ok (.aload_n 0, 1) := by decide +kernel
theorem dX12_takeResult_93 : decode cX12_takeResult 93 = .ok (.dup, 1) := by decide +kernel
theorem dX12_takeResult_94 : decode cX12_takeResult 94 = .ok (.getfield 625, 3) := by decide +kernel
theorem dX12_takeResult_97 : decode cX12_takeResult 97 = .ok (.iconst 1, 1) := by decide +kernel
theorem dX12_takeResult_98 : decode cX12_takeResult 98 = .ok (.isub, 1) := by decide +kernel
theorem dX12_takeResult_99 : decode cX12_takeResult 99 = .ok (.putfield 625, 3) := by decide +kernel
theorem dX12_takeResult_102 : decode cX12_takeResult 102 = .ok (.aload_n 0, 1) := by decide +kernel
theorem dX12_takeResult_103 : decode cX12_takeResult 103 = .ok (.aload_n 0, 1) := by decide +kernel
theorem dX12_takeResult_104 : decode cX12_takeResult 104 = .ok (.aload_n 0, 1) := by decide +kernel
theorem dX12_takeResult_105 : decode cX12_takeResult 105 = .ok (.getfield 199, 3) := by decide +kernel
theorem dX12_takeResult_108 : decode cX12_takeResult 108 = .ok (.iload_n 1, 1) := by decide +kernel
theorem dX12_takeResult_109 : decode cX12_takeResult 109 = .ok (.iaload, 1) := by decide +kernel
theorem dX12_takeResult_110 : decode cX12_takeResult 110 = .ok (.invokevirtual 659, 3) := by decide +kernel
theorem dX12_takeResult_113 : decode cX12_takeResult 113 = .ok (.invokevirtual 662, 3) := by decide +kernel
theorem dX12_takeResult_116 : decode cX12_takeResult 116 = .ok (.aload_n 0, 1) := by decide +kernel
theorem dX12_takeResult_117 : decode cX12_takeResult 117 = .ok (.getfield 196, 3) := by decide +kernel
theorem dX12_takeResult_120 : decode cX12_takeResult 120 = .ok (.iload_n 1, 1) := by decide +kernel
theorem dX12_takeResult_121 : decode cX12_takeResult 121 = .ok (.iconst 4, 1) := by decide +kernel
theorem dX12_takeResult_122 : decode cX12_takeResult 122 = .ok (.iastore, 1) := by decide +kernel
theorem dX12_takeResult_123 : decode cX12_takeResult 123 = .ok (.aload_n 0, 1) := by decide +kernel
theorem dX12_takeResult_124 : decode cX12_takeResult 124 = .ok (.aload_n 0, 1) := by decide +kernel
theorem dX12_takeResult_125 : decode cX12_takeResult 125 = .ok (.getfield 205, 3) := by decide +kernel
theorem dX12_takeResult_128 : decode cX12_takeResult 128 = .ok (.iload_n 1, 1) := by decide +kernel
theorem dX12_takeResult_129 : decode cX12_takeResult 129 = .ok (.iaload, 1) := by decide +kernel
theorem dX12_takeResult_130 : decode cX12_takeResult 130 = .ok (.aload_n 0, 1) := by decide +kernel
theorem dX12_takeResult_131 : decode cX12_takeResult 131 = .ok (.getfield 193, 3) := by decide +kernel
theorem dX12_takeResult_134 : decode cX12_takeResult 134 = .ok (.iload_n 1, 1) := by decide +kernel
theorem dX12_takeResult_135 : decode cX12_takeResult 135 = .ok (.baload, 1) := by decide +kernel
theorem dX12_takeResult_136 : decode cX12_takeResult 136 = .ok (.invokevirtual 621, 3) := by decide +kernel
theorem dX12_takeResult_139 : decode cX12_takeResult 139 = .ok (.return_, 1) := by decide +kernel
theorem dX12_takeResult_140 : decode cX12_takeResult 140 = .ok (.aload_n 0, 1) := by decide +kernel
theorem dX12_takeResult_141 : decode cX12_takeResult 141 = .ok (.dup, 1) := by decide +kernel
theorem dX12_takeResult_142 : decode cX12_takeResult 142 = .ok (.getfield 625, 3) := by decide +kernel
theorem dX12_takeResult_145 : decode cX12_takeResult 145 = .ok (.iconst 1, 1) := by decide +kernel
theorem dX12_takeResult_146 : decode cX12_takeResult 146 = .ok (.isub, 1) := by decide +kernel
theorem dX12_takeResult_147 : decode cX12_takeResult 147 = .ok (.putfield 625, 3) := by decide +kernel
theorem dX12_takeResult_150 : decode cX12_takeResult 150 = .ok (.aload_n 0, 1) := by decide +kernel
theorem dX12_takeResult_151 : decode cX12_takeResult 151 = .ok (.iload_n 1, 1) := by decide +kernel
theorem dX12_takeResult_152 : decode cX12_takeResult 152 = .ok (.aload_n 0, 1) := by decide +kernel
theorem dX12_takeResult_153 : decode cX12_takeResult 153 = .ok (.getfield 199, 3) := by decide +kernel
theorem dX12_takeResult_156 : decode cX12_takeResult 156 = .ok (.iload_n 1, 1) := by decide +kernel
theorem dX12_takeResult_157 : decode cX12_takeResult 157 = .ok (.iaload, 1) := by decide +kernel
theorem dX12_takeResult_158 : decode cX12_takeResult 158 = .ok (.aload_n 0, 1) := by decide +kernel
theorem dX12_takeResult_159 : decode cX12_takeResult 159 = .ok (.getfield 202, 3) := by decide +kernel
theorem dX12_takeResult_162 : decode cX12_takeResult 162 = .ok (.iload_n 1, 1) := by decide +kernel
theorem dX12_takeResult_163 : decode cX12_takeResult 163 = .ok (.iaload, 1) := by decide +kernel
theorem dX12_takeResult_164 : decode cX12_takeResult 164 = .ok (.aload_n 0, 1) := by decide +kernel
theorem dX12_takeResult_165 : decode cX12_takeResult 165 = .ok (.getfield 618, 3) := by decide +kernel
theorem dX12_takeResult_168 : decode cX12_takeResult 168 = .ok (.invokevirtual 665, 3) := by decide +kernel
theorem dX12_takeResult_171 : decode cX12_takeResult 171 = .ok (.return_, 1) := by decide +kernel
theorem dX12_takeResult_172 : decode cX12_takeResult 172 = .ok (.aload_n 0, 1) := by decide +kernel
theorem dX12_takeResult_173 : decode cX12_takeResult 173 = .ok (.aload_n 0, 1) := by decide +kernel
theorem dX12_takeResult_174 : decode cX12_takeResult 174 = .ok (.getfield 618, 3) := by decide +kernel
theorem dX12_takeResult_177 : decode cX12_takeResult 177 = .ok (.invokevirtual 659, 3) := by decide +kernel
theorem dX12_takeResult_180 : decode cX12_takeResult 180 = .ok (.istore_n 2, 1) := by decide +kernel
theorem dX12_takeResult_181 : decode cX12_takeResult 181 = .ok (.aload_n 0, 1) := by decide +kernel
theorem dX12_takeResult_182 : decode cX12_takeResult 182 = .ok (.aload_n 0, 1) := by decide +kernel
theorem dX12_takeResult_183 : decode cX12_takeResult 183 = .ok (.getfield 618, 3) := by decide +kernel
theorem dX12_takeResult_186 : decode cX12_takeResult 186 = .ok (.bipush 15, 2) := by decide +kernel
theorem dX12_takeResult_188 : decode cX12_takeResult 188 = .ok (.invokevirtual 542, 3) := by decide +kernel
theorem dX12_takeResult_191 : decode cX12_takeResult 191 = .ok (.ifCond .eq 33, 3) := by decide +kernel
theorem dX12_takeResult_194 : decode cX12_takeResult 194 = .ok (.aload_n 0, 1) := by decide +kernel
theorem dX12_takeResult_195 : decode cX12_takeResult 195 = .ok (.iload_n 2, 1) := by decide +kernel
theorem dX12_takeResult_196 : decode cX12_takeResult 196 = .ok (.invokevirtual 631, 3) := by decide +kernel
theorem dX12_takeResult_199 : decode cX12_takeResult 199 = .ok (.ifCond .ne 25, 3) := by decide +kernel
theorem dX12_takeResult_202 : decode cX12_takeResult 202 = .ok (.aload_n 0, 1) := by decide +kernel
theorem dX12_takeResult_203 : decode cX12_takeResult 203 = .ok (.getfield 193, 3) := by decide +kernel
theorem dX12_takeResult_206 : decode cX12_takeResult 206 = .ok (.iload_n 1, 1) := by decide +kernel
theorem dX12_takeResult_207 : decode cX12_takeResult 207 = .ok (.baload, 1) := by decide +kernel
theorem dX12_takeResult_208 : decode cX12_takeResult 208 = .ok (.ifCond .ne 16, 3) := by decide +kernel
theorem dX12_takeResult_211 : decode cX12_takeResult 211 = .ok (.aload_n 0, 1) := by decide +kernel
theorem dX12_takeResult_212 : decode cX12_takeResult 212 = .ok (.bipush 15, 2) := by decide +kernel
theorem dX12_takeResult_214 : decode cX12_takeResult 214 = .ok (.aload_n 0, 1) := by decide +kernel
theorem dX12_takeResult_215 : decode cX12_takeResult 215 = .ok (.getfield 618, 3) := by decide +kernel
theorem dX12_takeResult_218 : decode cX12_takeResult 218 = .ok (.iconst (-1), 1) := by decide +kernel
theorem dX12_takeResult_219 : decode cX12_takeResult 219 = .ok (.iconst (-1), 1) := by decide +kernel
theorem dX12_takeResult_220 : decode cX12_takeResult 220 = .ok (.invokevirtual 538, 3) := by decide +kernel
theorem dX12_takeResult_223 : decode cX12_takeResult 223 = .ok (.istore_n 2, 1) := by decide +kernel
theorem dX12_takeResult_224 : decode cX12_takeResult 224 = .ok (.aload_n 0, 1) := by decide +kernel
theorem dX12_takeResult_225 : decode cX12_takeResult 225 = .ok (.aload_n 0, 1) := by decide +kernel
theorem dX12_takeResult_226 : decode cX12_takeResult 226 = .ok (.iload_n 2, 1) := by decide +kernel
theorem dX12_takeResult_227 : decode cX12_takeResult 227 = .ok (.invokevirtual 546, 3) := by decide +kernel
theorem dX12_takeResult_230 : decode cX12_takeResult 230 = .ok (.ifCond .eq 7, 3) := by decide +kernel
theorem dX12_takeResult_233 : decode cX12_takeResult 233 = .ok (.iload_n 2, 1) := by decide +kernel
theorem dX12_takeResult_234 : decode cX12_takeResult 234 = .ok (.goto 14, 3) := by decide +kernel
theorem dX12_takeResult_237 : decode cX12_takeResult 237 = .ok (.aload_n 0, 1) := by decide +kernel
theorem dX12_takeResult_238 : decode cX12_takeResult 238 = .ok (.iload_n 2, 1) := by decide +kernel
theorem dX12_takeResult_239 : decode cX12_takeResult 239 = .ok (.aload_n 0, 1) := by decide +kernel
theorem dX12_takeResult_240 : decode cX12_takeResult 240 = .ok (.getfield 193, 3) := by decide +kernel
theorem dX12_takeResult_243 : decode cX12_takeResult 243 = .ok (.iload_n 1, 1) := by decide +kernel
theorem dX12_takeResult_244 : decode cX12_takeResult 244 = .ok (.baload, 1) := by decide +kernel
theorem dX12_takeResult_245 : decode cX12_takeResult 245 = .ok (.invokevirtual 640, 3) := by decide +kernel
theorem dX12_takeResult_248 : decode cX12_takeResult 248 = .ok (.invokevirtual 637, 3) := by decide +kernel
theorem dX12_takeResult_251 : decode cX12_takeResult 251 = .ok (.return_, 1) := by decide +kernel
theorem dX12_takeResult_252 : decode cX12_takeResult 252 = .ok (.aload_n 0, 1) := by decide +kernel
theorem dX12_takeResult_253 : decode cX12_takeResult 253 = .ok (.getfield 220, 3) := by decide +kernel
theorem dX12_takeResult_256 : decode cX12_takeResult 256 = .ok (.aload_n 0, 1) := by decide +kernel
theorem dX12_takeResult_257 : decode cX12_takeResult 257 = .ok (.getfield 647, 3) := by decide +kernel
theorem dX12_takeResult_260 : decode cX12_takeResult 260 = .ok (.aload_n 0, 1) := by decide +kernel
theorem dX12_takeResult_261 : decode cX12_takeResult 261 = .ok (.getfield 618, 3) := by decide +kernel
theorem dX12_takeResult_264 : decode cX12_takeResult 264 = .ok (.iastore, 1) := by decide +kernel
theorem dX12_takeResult_265 : decode cX12_takeResult 265 = .ok (.aload_n 0, 1) := by decide +kernel
theorem dX12_takeResult_266 : decode cX12_takeResult 266 = .ok (.dup, 1) := by decide +kernel
theorem dX12_takeResult_267 : decode cX12_takeResult 267 = .ok (.getfield 647, 3) := by decide +kernel
theorem dX12_takeResult_270 : decode cX12_takeResult 270 = .ok (.iconst 1, 1) := by decide +kernel
theorem dX12_takeResult_271 : decode cX12_takeResult 271 = .ok (.iadd, 1) := by decide +kernel
theorem dX12_takeResult_272 : decode cX12_takeResult 272 = .ok (.putfield 647, 3) := by decide +kernel
theorem dX12_takeResult_275 : decode cX12_takeResult 275 = .ok (.aload_n 0, 1) := by decide +kernel
theorem dX12_takeResult_276 : decode cX12_takeResult 276 = .ok (.iload_n 1, 1) := by decide +kernel
theorem dX12_takeResult_277 : decode cX12_takeResult 277 = .ok (.invokevirtual 650, 3) := by decide +kernel
theorem dX12_takeResult_280 : decode cX12_takeResult 280 = .ok (.return_, 1) := by decide +kernel
theorem dX12_takeResult_281 : decode cX12_takeResult 281 = .ok (.aload_n 0, 1) := by decide +kernel
theorem dX12_takeResult_282 : decode cX12_takeResult 282 = .ok (.getfield 618, 3) := by decide +kernel
theorem dX12_takeResult_285 : decode cX12_takeResult 285 = .ok (.iconst 1, 1) := by decide +kernel
theorem dX12_takeResult_286 : decode cX12_takeResult 286 = .ok (.if_icmp .ne 21, 3) := by decide +kernel
theorem dX12_takeResult_289 : decode cX12_takeResult 289 = .ok (.aload_n 0, 1) := by decide +kernel
theorem dX12_takeResult_290 : decode cX12_takeResult 290 = .ok (.getfield 217, 3) := by decide +kernel
theorem dX12_takeResult_293 : decode cX12_takeResult 293 = .ok (.iload_n 1, 1) := by decide +kernel
theorem dX12_takeResult_294 : decode cX12_takeResult 294 = .ok (.dup2, 1) := by decide +kernel
theorem dX12_takeResult_295 : decode cX12_takeResult 295 = .ok (.iaload, 1) := by decide +kernel
theorem dX12_takeResult_296 : decode cX12_takeResult 296 = .ok (.iconst 1, 1) := by decide +kernel
theorem dX12_takeResult_297 : decode cX12_takeResult 297 = .ok (.iadd, 1) := by decide +kernel
theorem dX12_takeResult_298 : decode cX12_takeResult 298 = .ok (.iastore, 1) := by decide +kernel
theorem dX12_takeResult_299 : decode cX12_takeResult 299 = .ok (.aload_n 0, 1) := by decide +kernel
theorem dX12_takeResult_300 : decode cX12_takeResult 300 = .ok (.iload_n 1, 1) := by decide +kernel
theorem dX12_takeResult_301 : decode cX12_takeResult 301 = .ok (.invokevirtual 669, 3) := by decide +kernel
theorem dX12_takeResult_304 : decode cX12_takeResult 304 = .ok (.goto 16, 3) := by decide +kernel
theorem dX12_takeResult_307 : decode cX12_takeResult 307 = .ok (.aload_n 0, 1) := by decide +kernel
theorem dX12_takeResult_308 : decode cX12_takeResult 308 = .ok (.iload_n 1, 1) := by decide +kernel
theorem dX12_takeResult_309 : decode cX12_takeResult 309 = .ok (.aload_n 0, 1) := by decide +kernel
theorem dX12_takeResult_310 : decode cX12_takeResult 310 = .ok (.getfield 214, 3) := by decide +kernel
theorem dX12_takeResult_313 : decode cX12_takeResult 313 = .ok (.iload_n 1, 1) := by decide +kernel
theorem dX12_takeResult_314 : decode cX12_takeResult 314 = .ok (.iaload, 1) := by decide +kernel
theorem dX12_takeResult_315 : decode cX12_takeResult 315 = .ok (.iconst 1, 1) := by decide +kernel
theorem dX12_takeResult_316 : decode cX12_takeResult 316 = .ok (.isub, 1) := by decide +kernel
theorem dX12_takeResult_317 : decode cX12_takeResult 317 = .ok (.invokevirtual 672, 3) := by decide +kernel
theorem dX12_takeResult_320 : decode cX12_takeResult 320 = .ok (.return_, 1) := by decide +kernel
theorem dX12_takeResult_321 : decode cX12_takeResult 321 = .ok (.aload_n 0, 1) := by decide +kernel
theorem dX12_takeResult_322 : decode cX12_takeResult 322 = .ok (.aload_n 0, 1) := by decide +kernel
theorem dX12_takeResult_323 : decode cX12_takeResult 323 = .ok (.getfield 618, 3) := by decide +kernel
theorem dX12_takeResult_326 : decode cX12_takeResult 326 = .ok (.invokevirtual 546, 3) := by decide +kernel
theorem dX12_takeResult_329 : decode cX12_takeResult 329 = .ok (.ifCond .eq 32, 3) := by decide +kernel
theorem dX12_takeResult_332 : decode cX12_takeResult 332 = .ok (.aload_n 0, 1) := by decide +kernel
theorem dX12_takeResult_333 : decode cX12_takeResult 333 = .ok (.aload_n 0, 1) := by decide +kernel
theorem dX12_takeResult_334 : decode cX12_takeResult 334 = .ok (.aload_n 0, 1) := by decide +kernel
theorem dX12_takeResult_335 : decode cX12_takeResult 335 = .ok (.getfield 190, 3) := by decide +kernel
theorem dX12_takeResult_338 : decode cX12_takeResult 338 = .ok (.iload_n 1, 1) := by decide +kernel
theorem dX12_takeResult_339 : decode cX12_takeResult 339 = .ok (.iaload, 1) := by decide +kernel
theorem dX12_takeResult_340 : decode cX12_takeResult 340 = .ok (.aload_n 0, 1) := by decide +kernel
theorem dX12_takeResult_341 : decode cX12_takeResult 341 = .ok (.getfield 618, 3) := by decide +kernel
theorem dX12_takeResult_344 : decode cX12_takeResult 344 = .ok (.ifCond .ne 7, 3) := by decide +kernel
theorem dX12_takeResult_347 : decode cX12_takeResult 347 = .ok (.iconst 3, 1) := by decide +kernel
theorem dX12_takeResult_348 : decode cX12_takeResult 348 = .ok (.goto 4, 3) := by decide +kernel
theorem dX12_takeResult_351 : decode cX12_takeResult 351 = .ok (.iconst 2, 1) := by decide +kernel
theorem dX12_takeResult_352 : decode cX12_takeResult 352 = .ok (.invokevirtual 675, 3) := by decide +kernel
theorem dX12_takeResult_355 : decode cX12_takeResult 355 = .ok (.invokevirtual 644, 3) := by decide +kernel
theorem dX12_takeResult_358 : decode cX12_takeResult 358 = .ok (.goto 13, 3) := by decide +kernel
theorem dX12_takeResult_361 : decode cX12_takeResult 361 = .ok (.aload_n 0, 1) := by decide +kernel
theorem dX12_takeResult_362 : decode cX12_takeResult 362 = .ok (.aload_n 0, 1) := by decide +kernel
theorem dX12_takeResult_363 : decode cX12_takeResult 363 = .ok (.getfield 190, 3) := by decide +kernel
theorem dX12_takeResult_366 : decode cX12_takeResult 366 = .ok (.iload_n 1, 1) := by decide +kernel
theorem dX12_takeResult_367 : decode cX12_takeResult 367 = .ok (.iaload, 1) := by decide +kernel
theorem dX12_takeResult_368 : decode cX12_takeResult 368 = .ok (.invokevirtual 637, 3) := by decide +kernel
theorem dX12_takeResult_371 : decode cX12_takeResult 371 = .ok (.return_, 1) := by decide +kernel
theorem dX12_takeResult_372 : decode cX12_takeResult 372 = .ok (.aload_n 0, 1) := by decide +kernel
theorem dX12_takeResult_373 : decode cX12_takeResult 373 = .ok (.aload_n 0, 1) := by decide +kernel
theorem dX12_takeResult_374 : decode cX12_takeResult 374 = .ok (.getfield 618, 3) := by decide +kernel
theorem dX12_takeResult_377 : decode cX12_takeResult 377 = .ok (.invokevirtual 637, 3) := by decide +kernel
theorem dX12_takeResult_380 : decode cX12_takeResult 380 = .ok (.return_, 1) := by decide +kernel

section
variable {p : Program} {l : Launch} {e : Env} {R : Room} {s : State} {m : MethodId} {args : Array Value} {below : List Frame} {meth : Method} {c : Code} {H : Heap} {locs : List Loc} {Qf : State → Prop}
variable {ls : Array Slot} {D : va_G} {ca : Nat → ClassId} {A : Nat → Prop} {h0 : Nat} {ad : Nat → Nat} {H0 : Heap} {u : iST}
def w_takeResult_248 (Q : iST → Prop) (y1 : Int) (u : iST) : Prop :=
  w_end0 y1 (fun u => 
  Q u) u
set_option maxRecDepth 20000 in
set_option maxHeartbeats 4000000 in
theorem b_takeResult_248 (X : kX p m c cX12_takeResult 3 s args D ca) (hRf : 11 ≤ R.frames) (hRl : 258 ≤ R.locals) {Q : iST → Prop} (hret : ∀ (u : iST) (H : Heap) (locs : List Loc) (ls : Array Slot) (pc : Nat), Q u → kW D ca A h0 ad H0 H locs u → decode cX12_takeResult pc = .ok (.return_, 1) → W p l e R s m args below meth c H locs 0 0 Qf (F0 m pc ls [])) {y1 : Int} (ry1 : inR y1) (hw : kW D ca A h0 ad H0 H locs u) (hl : lv_has ls 3 [(0, .ref h0)]) (h : w_takeResult_248 Q y1 u) : W p l e R s m args below meth c H locs 0 0 Qf (F0 m 248 ls [.int (jI y1), .ref (h0)]) := by
  have hx := X.1.1
  have hb := X.1.2.1
  unfold w_takeResult_248 at h
  refine kcV (n := 1) (c_end0 ry1 h) G_end0 E_end0 X hw (Nat.le_trans (Nat.le_of_ble_eq_true rfl) hRf) (Nat.le_trans (Nat.le_of_ble_eq_true rfl) hRl) rfl hl.1 (Nat.le_of_ble_eq_true rfl) rfl dX12_takeResult_248 (fun u H locs h hw => ?_)
  exact hret _ _ _ _ _ h hw dX12_takeResult_251

def w_takeResult_224 (Q : iST → Prop) (x1 : Int) (x2 : Int) (u : iST) : Prop :=
  w_isConstant x2 (fun v25 u => 
  br (v25 = 0) (
    bd x1 60 (rz (u.2.1 93 x1) (fun v26 => 
    w_lookedUp x2 v26 (fun v27 u => 
    w_takeResult_248 Q v27 u) u))) (
    w_takeResult_248 Q x2 u)) u
set_option maxRecDepth 20000 in
set_option maxHeartbeats 4000000 in
theorem b_takeResult_224 (X : kX p m c cX12_takeResult 3 s args D ca) (hRf : 11 ≤ R.frames) (hRl : 258 ≤ R.locals) {Q : iST → Prop} (hret : ∀ (u : iST) (H : Heap) (locs : List Loc) (ls : Array Slot) (pc : Nat), Q u → kW D ca A h0 ad H0 H locs u → decode cX12_takeResult pc = .ok (.return_, 1) → W p l e R s m args below meth c H locs 0 0 Qf (F0 m pc ls [])) {x1 x2 : Int} (rx1 : inR x1) (rx2 : inR x2) (hw : kW D ca A h0 ad H0 H locs u) (hl : lv_has ls 3 [(0, .ref h0), (1, .int (jI x1)), (2, .int (jI x2))]) (h : w_takeResult_224 Q x1 x2 u) : W p l e R s m args below meth c H locs 0 0 Qf (F0 m 224 ls []) := by
  have hx := X.1.1
  have hb := X.1.2.1
  unfold w_takeResult_224 at h
  refine lv_aload_n hx hb dX12_takeResult_224 rfl (lv_at hl 0 rfl) ?_
  refine lv_aload_n hx hb dX12_takeResult_225 rfl (lv_at hl 0 rfl) ?_
  refine lv_iload_n hx hb dX12_takeResult_226 rfl (lv_at hl 2 rfl) ?_
  refine kcI (n := 1) (c_isConstant rx2 h) G_isConstant E_isConstant X hw (Nat.le_trans (Nat.le_of_ble_eq_true rfl) hRf) (Nat.le_trans (Nat.le_of_ble_eq_true rfl) hRl) rfl hl.1 (Nat.le_of_ble_eq_true rfl) rfl dX12_takeResult_227 (fun v25 u H locs rv25 h hw => ?_)
  refine k_if_eq hx hb rv25 dX12_takeResult_230 (tgt := 237) rfl h (fun h => ?_) (fun h => ?_)
  · refine lv_aload_n hx hb dX12_takeResult_237 rfl (lv_at hl 0 rfl) ?_
    refine lv_iload_n hx hb dX12_takeResult_238 rfl (lv_at hl 2 rfl) ?_
    refine lv_aload_n hx hb dX12_takeResult_239 rfl (lv_at hl 0 rfl) ?_
    refine gA 93 193 (by decide) L_93 (fun _ _ => mF_93) rfl X hw dX12_takeResult_240 ?_
    refine lv_iload_n hx hb dX12_takeResult_243 rfl (lv_at hl 1 rfl) ?_
    refine aZ 93 57 56 60 (fun _ _ _ _ => mG_93) (fun _ => rfl) (by decide) X hw rx1 dX12_takeResult_244 rfl h (fun v26 rv26 h => ?_)
    refine kcI (n := 2) (c_lookedUp rx2 (bz_in rv26) h) G_lookedUp E_lookedUp X hw (Nat.le_trans (Nat.le_of_ble_eq_true rfl) hRf) (Nat.le_trans (Nat.le_of_ble_eq_true rfl) hRl) rfl hl.1 (Nat.le_of_ble_eq_true rfl) rfl dX12_takeResult_245 (fun v27 u H locs rv27 h hw => ?_)
    exact b_takeResult_248 X hRf hRl hret rv27 hw (lv_sub hl [0] rfl) h
  · refine lv_iload_n hx hb dX12_takeResult_233 rfl (lv_at hl 2 rfl) ?_
    refine lv_goto hx hb dX12_takeResult_234 (tgt := 248) rfl ?_
    exact b_takeResult_248 X hRf hRl hret rx2 hw (lv_sub hl [0] rfl) h

def w_takeResult_352 (Q : iST → Prop) (y2 : Int) (y3 : Int) (u : iST) : Prop :=
  w_bodyOf y2 y3 (fun v54 u => 
  w_passOn v54 (fun u => 
  Q u) u) u
set_option maxRecDepth 20000 in
set_option maxHeartbeats 4000000 in
theorem b_takeResult_352 (X : kX p m c cX12_takeResult 3 s args D ca) (hRf : 11 ≤ R.frames) (hRl : 258 ≤ R.locals) {Q : iST → Prop} (hret : ∀ (u : iST) (H : Heap) (locs : List Loc) (ls : Array Slot) (pc : Nat), Q u → kW D ca A h0 ad H0 H locs u → decode cX12_takeResult pc = .ok (.return_, 1) → W p l e R s m args below meth c H locs 0 0 Qf (F0 m pc ls [])) {y2 y3 : Int} (ry2 : inR y2) (ry3 : inR y3) (hw : kW D ca A h0 ad H0 H locs u) (hl : lv_has ls 3 [(0, .ref h0)]) (h : w_takeResult_352 Q y2 y3 u) : W p l e R s m args below meth c H locs 0 0 Qf (F0 m 352 ls [.int (jI y3), .int (jI y2), .ref (h0), .ref (h0)]) := by
  have hx := X.1.1
  have hb := X.1.2.1
  unfold w_takeResult_352 at h
  refine kcI (n := 2) (c_bodyOf ry2 ry3 h) G_bodyOf E_bodyOf X hw (Nat.le_trans (Nat.le_of_ble_eq_true rfl) hRf) (Nat.le_trans (Nat.le_of_ble_eq_true rfl) hRl) rfl hl.1 (Nat.le_of_ble_eq_true rfl) rfl dX12_takeResult_352 (fun v54 u H locs rv54 h hw => ?_)
  refine kcV (n := 1) (c_passOn rv54 h) G_passOn E_passOn X hw (Nat.le_trans (Nat.le_of_ble_eq_true rfl) hRf) (Nat.le_trans (Nat.le_of_ble_eq_true rfl) hRl) rfl hl.1 (Nat.le_of_ble_eq_true rfl) rfl dX12_takeResult_355 (fun u H locs h hw => ?_)
  refine lv_goto hx hb dX12_takeResult_358 (tgt := 371) rfl ?_
  exact hret _ _ _ _ _ h hw dX12_takeResult_371

def w_takeResult (a0 : Int) (Q : iST → Prop) (u : iST) : Prop :=
  zt 0 (sw (iI u 111 0) (fun u => 
  bd a0 60 (rd (u.2.1 94 a0) (fun v1 => 
  br (v1 = 1) (
    w_test a0 (fun u => 
    Q u) u) (
  br (v1 = 3) (
    rd (u.1 110) (fun v4 => 
    bd a0 60 (sw (iA u 96 a0 v4) (fun u => 
    rd (u.1 109) (fun v5 => 
    ov (v5 - 1) (
    sw (iI u 109 (v5 - 1)) (fun u => 
    bd a0 60 (rd (u.2.1 95 a0) (fun v7 => 
    w_notOf v7 (fun v8 u => 
    w_push v8 (fun u => 
    bd a0 60 (sw (iA u 94 a0 4) (fun u => 
    bd a0 60 (rd (u.2.1 97 a0) (fun v10 => 
    bd a0 60 (rz (u.2.1 93 a0) (fun v11 => 
    w_beginJob v10 v11 (fun u => 
    Q u) u))))))) u) u))))))))) (
  br (v1 = 4) (
    rd (u.1 109) (fun v14 => 
    ov (v14 - 1) (
    sw (iI u 109 (v14 - 1)) (fun u => 
    bd a0 60 (rd (u.2.1 95 a0) (fun v16 => 
    bd a0 60 (rd (u.2.1 96 a0) (fun v17 => 
    rd (u.1 110) (fun v18 => 
    w_join a0 v16 v17 v18 (fun u => 
    Q u) u))))))))) (
  br (v1 = 5) (
    rd (u.1 110) (fun v21 => 
    w_notOf v21 (fun v22 u => 
    rd (u.1 110) (fun v23 => 
    w_isCallOf v23 15 (fun v24 u => 
    br (v24 = 0) (
      w_takeResult_224 Q a0 v22 u) (
      w_isBoolean v22 (fun v29 u => 
      br (v29 ≠ 0) (
        w_takeResult_224 Q a0 v22 u) (
        bd a0 60 (rz (u.2.1 93 a0) (fun v30 => 
        br (v30 ≠ 0) (
          w_takeResult_224 Q a0 v22 u) (
          rd (u.1 110) (fun v31 => 
          w_made 15 v31 (-1) (-1) (fun v32 u => 
          w_takeResult_224 Q a0 v32 u) u)))))) u)) u)) u)) (
  br (v1 = 10) (
    rd (u.1 104) (fun v34 => 
    rd (u.1 110) (fun v35 => 
    bd v34 1200 (sw (iA u 103 v34 v35) (fun u => 
    rd (u.1 104) (fun v36 => 
    ov (v36 + 1) (
    sw (iI u 104 (v36 + 1)) (fun u => 
    w_nextTerm a0 (fun u => 
    Q u) u)))))))) (
  br (v1 = 31) (
    rd (u.1 110) (fun v40 => 
    br (v40 ≠ 1) (
      bd a0 60 (rd (u.2.1 100 a0) (fun v41 => 
      ov (v41 - 1) (
      w_tryRules a0 (v41 - 1) (fun u => 
      Q u) u)))) (
      bd a0 60 (rd (u.2.1 101 a0) (fun v44 => 
      ov (v44 + 1) (
      bd a0 60 (sw (iA u 101 a0 (v44 + 1)) (fun u => 
      w_nextHypothesis a0 (fun u => 
      Q u) u)))))))) (
  br (v1 = 40) (
    rd (u.1 110) (fun v48 => 
    w_isConstant v48 (fun v49 u => 
    br (v49 = 0) (
      bd a0 60 (rd (u.2.1 92 a0) (fun v50 => 
      w_end0 v50 (fun u => 
      Q u) u))) (
      bd a0 60 (rd (u.2.1 92 a0) (fun v52 => 
      rd (u.1 110) (fun v53 => 
      br (v53 ≠ 0) (
        w_takeResult_352 Q v52 2 u) (
        w_takeResult_352 Q v52 3 u)))))) u)) (
  rd (u.1 110) (fun v57 => 
  w_end0 v57 (fun u => 
  Q u) u))))))))))))
set_option maxRecDepth 20000 in
set_option maxHeartbeats 4000000 in
theorem b_takeResult_s (X : kX p m c cX12_takeResult 3 s args D ca) (hRf : 11 ≤ R.frames) (hRl : 258 ≤ R.locals) {Q : iST → Prop} (hret : ∀ (u : iST) (H : Heap) (locs : List Loc) (ls : Array Slot) (pc : Nat), Q u → kW D ca A h0 ad H0 H locs u → decode cX12_takeResult pc = .ok (.return_, 1) → W p l e R s m args below meth c H locs 0 0 Qf (F0 m pc ls [])) {a0 : Int} (ra0 : inR a0) (hw : kW D ca A h0 ad H0 H locs u) (hl : lv_has ls 3 [(0, .ref h0), (1, .int (jI a0))]) (h : w_takeResult a0 Q u) : W p l e R s m args below meth c H locs 0 0 Qf (F0 m 0 ls []) := by
  have hx := X.1.1
  have hb := X.1.2.1
  unfold w_takeResult at h
  refine lv_aload_n hx hb dX12_takeResult_0 rfl (lv_at hl 0 rfl) ?_
  refine lv_iconst hx hb dX12_takeResult_1 (v := jI 0) rfl ?_
  refine pZ 111 609 (by decide) L_111 rfl rfl rfl (fun _ _ _ _ _ => mSI_111) X hw dX12_takeResult_2 h (fun H locs u hw h => ?_)
  refine lv_aload_n hx hb dX12_takeResult_5 rfl (lv_at hl 0 rfl) ?_
  refine gA 94 196 (by decide) L_94 (fun _ _ => mF_94) rfl X hw dX12_takeResult_6 ?_
  refine lv_iload_n hx hb dX12_takeResult_9 rfl (lv_at hl 1 rfl) ?_
  refine aL 94 58 57 60 (fun _ _ _ _ => mG_94) (fun _ => rfl) X hw ra0 dX12_takeResult_10 rfl h (fun v1 rv1 h => ?_)
  refine br_sp h (fun ek h => ?_) (fun n3 h => ?_)
  · refine k_lokIn (tgt := 76) (off := 65) hx hb dX12_takeResult_11 ek (by decide) (by decide) (by decide) rfl ?_
    refine lv_aload_n hx hb dX12_takeResult_76 rfl (lv_at hl 0 rfl) ?_
    refine lv_iload_n hx hb dX12_takeResult_77 rfl (lv_at hl 1 rfl) ?_
    refine kcV (n := 1) (c_test ra0 h) G_test E_test X hw (Nat.le_trans (Nat.le_of_ble_eq_true rfl) hRf) (Nat.le_trans (Nat.le_of_ble_eq_true rfl) hRl) rfl hl.1 (Nat.le_of_ble_eq_true rfl) rfl dX12_takeResult_78 (fun u H locs h hw => ?_)
    exact hret _ _ _ _ _ h hw dX12_takeResult_81
  refine br_sp h (fun ek h => ?_) (fun n13 h => ?_)
  · refine k_lokIn (tgt := 82) (off := 71) hx hb dX12_takeResult_11 ek (by decide) (by decide) (by decide) rfl ?_
    refine lv_aload_n hx hb dX12_takeResult_82 rfl (lv_at hl 0 rfl) ?_
    refine gA 96 202 (by decide) L_96 (fun _ _ => mF_96) rfl X hw dX12_takeResult_83 ?_
    refine lv_iload_n hx hb dX12_takeResult_86 rfl (lv_at hl 1 rfl) ?_
    refine lv_aload_n hx hb dX12_takeResult_87 rfl (lv_at hl 0 rfl) ?_
    refine gS 110 618 (by decide) L_110 (fun _ _ => mF_110) rfl X hw dX12_takeResult_88 h (fun v4 rv4 h => ?_)
    refine aS 96 60 59 60 (fun _ _ _ _ => mG_96) (fun _ => rfl) (fun _ _ _ _ _ _ => mSA_96) (by decide) X hw ra0 rv4 dX12_takeResult_91 rfl h (fun H locs u hw h => ?_)
    refine lv_aload_n hx hb dX12_takeResult_92 rfl (lv_at hl 0 rfl) ?_
    refine lv_dup hx hb dX12_takeResult_93 rfl ?_
    refine gS 109 625 (by decide) L_109 (fun _ _ => mF_109) rfl X hw dX12_takeResult_94 h (fun v5 rv5 h => ?_)
    refine lv_iconst hx hb dX12_takeResult_97 (v := jI 1) rfl ?_
    refine k_isub hx hb dX12_takeResult_98 h (fun r6 h => ?_)
    refine pS 109 625 (by decide) L_109 rfl rfl rfl (fun _ _ _ _ _ => mSI_109) (by decide) X hw r6 dX12_takeResult_99 h (fun H locs u hw h => ?_)
    refine lv_aload_n hx hb dX12_takeResult_102 rfl (lv_at hl 0 rfl) ?_
    refine lv_aload_n hx hb dX12_takeResult_103 rfl (lv_at hl 0 rfl) ?_
    refine lv_aload_n hx hb dX12_takeResult_104 rfl (lv_at hl 0 rfl) ?_
    refine gA 95 199 (by decide) L_95 (fun _ _ => mF_95) rfl X hw dX12_takeResult_105 ?_
    refine lv_iload_n hx hb dX12_takeResult_108 rfl (lv_at hl 1 rfl) ?_
    refine aL 95 59 58 60 (fun _ _ _ _ => mG_95) (fun _ => rfl) X hw ra0 dX12_takeResult_109 rfl h (fun v7 rv7 h => ?_)
    refine kcI (n := 1) (c_notOf rv7 h) G_notOf E_notOf X hw (Nat.le_trans (Nat.le_of_ble_eq_true rfl) hRf) (Nat.le_trans (Nat.le_of_ble_eq_true rfl) hRl) rfl hl.1 (Nat.le_of_ble_eq_true rfl) rfl dX12_takeResult_110 (fun v8 u H locs rv8 h hw => ?_)
    refine kcV (n := 1) (c_push rv8 h) G_push E_push X hw (Nat.le_trans (Nat.le_of_ble_eq_true rfl) hRf) (Nat.le_trans (Nat.le_of_ble_eq_true rfl) hRl) rfl hl.1 (Nat.le_of_ble_eq_true rfl) rfl dX12_takeResult_113 (fun u H locs h hw => ?_)
    refine lv_aload_n hx hb dX12_takeResult_116 rfl (lv_at hl 0 rfl) ?_
    refine gA 94 196 (by decide) L_94 (fun _ _ => mF_94) rfl X hw dX12_takeResult_117 ?_
    refine lv_iload_n hx hb dX12_takeResult_120 rfl (lv_at hl 1 rfl) ?_
    refine lv_iconst hx hb dX12_takeResult_121 (v := jI 4) rfl ?_
    refine aS 94 58 57 60 (fun _ _ _ _ => mG_94) (fun _ => rfl) (fun _ _ _ _ _ _ => mSA_94) (by decide) X hw ra0 (by decide) dX12_takeResult_122 rfl h (fun H locs u hw h => ?_)
    refine lv_aload_n hx hb dX12_takeResult_123 rfl (lv_at hl 0 rfl) ?_
    refine lv_aload_n hx hb dX12_takeResult_124 rfl (lv_at hl 0 rfl) ?_
    refine gA 97 205 (by decide) L_97 (fun _ _ => mF_97) rfl X hw dX12_takeResult_125 ?_
    refine lv_iload_n hx hb dX12_takeResult_128 rfl (lv_at hl 1 rfl) ?_
    refine aL 97 61 60 60 (fun _ _ _ _ => mG_97) (fun _ => rfl) X hw ra0 dX12_takeResult_129 rfl h (fun v10 rv10 h => ?_)
    refine lv_aload_n hx hb dX12_takeResult_130 rfl (lv_at hl 0 rfl) ?_
    refine gA 93 193 (by decide) L_93 (fun _ _ => mF_93) rfl X hw dX12_takeResult_131 ?_
    refine lv_iload_n hx hb dX12_takeResult_134 rfl (lv_at hl 1 rfl) ?_
    refine aZ 93 57 56 60 (fun _ _ _ _ => mG_93) (fun _ => rfl) (by decide) X hw ra0 dX12_takeResult_135 rfl h (fun v11 rv11 h => ?_)
    refine kcV (n := 2) (c_beginJob rv10 (bz_in rv11) h) G_beginJob E_beginJob X hw (Nat.le_trans (Nat.le_of_ble_eq_true rfl) hRf) (Nat.le_trans (Nat.le_of_ble_eq_true rfl) hRl) rfl hl.1 (Nat.le_of_ble_eq_true rfl) rfl dX12_takeResult_136 (fun u H locs h hw => ?_)
    exact hret _ _ _ _ _ h hw dX12_takeResult_139
  refine br_sp h (fun ek h => ?_) (fun n20 h => ?_)
  · refine k_lokIn (tgt := 140) (off := 129) hx hb dX12_takeResult_11 ek (by decide) (by decide) (by decide) rfl ?_
    refine lv_aload_n hx hb dX12_takeResult_140 rfl (lv_at hl 0 rfl) ?_
    refine lv_dup hx hb dX12_takeResult_141 rfl ?_
    refine gS 109 625 (by decide) L_109 (fun _ _ => mF_109) rfl X hw dX12_takeResult_142 h (fun v14 rv14 h => ?_)
    refine lv_iconst hx hb dX12_takeResult_145 (v := jI 1) rfl ?_
    refine k_isub hx hb dX12_takeResult_146 h (fun r15 h => ?_)
    refine pS 109 625 (by decide) L_109 rfl rfl rfl (fun _ _ _ _ _ => mSI_109) (by decide) X hw r15 dX12_takeResult_147 h (fun H locs u hw h => ?_)
    refine lv_aload_n hx hb dX12_takeResult_150 rfl (lv_at hl 0 rfl) ?_
    refine lv_iload_n hx hb dX12_takeResult_151 rfl (lv_at hl 1 rfl) ?_
    refine lv_aload_n hx hb dX12_takeResult_152 rfl (lv_at hl 0 rfl) ?_
    refine gA 95 199 (by decide) L_95 (fun _ _ => mF_95) rfl X hw dX12_takeResult_153 ?_
    refine lv_iload_n hx hb dX12_takeResult_156 rfl (lv_at hl 1 rfl) ?_
    refine aL 95 59 58 60 (fun _ _ _ _ => mG_95) (fun _ => rfl) X hw ra0 dX12_takeResult_157 rfl h (fun v16 rv16 h => ?_)
    refine lv_aload_n hx hb dX12_takeResult_158 rfl (lv_at hl 0 rfl) ?_
    refine gA 96 202 (by decide) L_96 (fun _ _ => mF_96) rfl X hw dX12_takeResult_159 ?_
    refine lv_iload_n hx hb dX12_takeResult_162 rfl (lv_at hl 1 rfl) ?_
    refine aL 96 60 59 60 (fun _ _ _ _ => mG_96) (fun _ => rfl) X hw ra0 dX12_takeResult_163 rfl h (fun v17 rv17 h => ?_)
    refine lv_aload_n hx hb dX12_takeResult_164 rfl (lv_at hl 0 rfl) ?_
    refine gS 110 618 (by decide) L_110 (fun _ _ => mF_110) rfl X hw dX12_takeResult_165 h (fun v18 rv18 h => ?_)
    refine kcV (n := 4) (c_join ra0 rv16 rv17 rv18 h) G_join E_join X hw (Nat.le_trans (Nat.le_of_ble_eq_true rfl) hRf) (Nat.le_trans (Nat.le_of_ble_eq_true rfl) hRl) rfl hl.1 (Nat.le_of_ble_eq_true rfl) rfl dX12_takeResult_168 (fun u H locs h hw => ?_)
    exact hret _ _ _ _ _ h hw dX12_takeResult_171
  refine br_sp h (fun ek h => ?_) (fun n33 h => ?_)
  · refine k_lokIn (tgt := 172) (off := 161) hx hb dX12_takeResult_11 ek (by decide) (by decide) (by decide) rfl ?_
    refine lv_aload_n hx hb dX12_takeResult_172 rfl (lv_at hl 0 rfl) ?_
    refine lv_aload_n hx hb dX12_takeResult_173 rfl (lv_at hl 0 rfl) ?_
    refine gS 110 618 (by decide) L_110 (fun _ _ => mF_110) rfl X hw dX12_takeResult_174 h (fun v21 rv21 h => ?_)
    refine kcI (n := 1) (c_notOf rv21 h) G_notOf E_notOf X hw (Nat.le_trans (Nat.le_of_ble_eq_true rfl) hRf) (Nat.le_trans (Nat.le_of_ble_eq_true rfl) hRl) rfl hl.1 (Nat.le_of_ble_eq_true rfl) rfl dX12_takeResult_177 (fun v22 u H locs rv22 h hw => ?_)
    refine lv_istore_n hx hb dX12_takeResult_180 rfl hl (by decide) rfl (fun ls hl => ?_)
    have hl : lv_has ls 3 [(2, .int (jI v22)), (0, .ref (h0)), (1, .int (jI a0))] := hl
    refine lv_aload_n hx hb dX12_takeResult_181 rfl (lv_at hl 1 rfl) ?_
    refine lv_aload_n hx hb dX12_takeResult_182 rfl (lv_at hl 1 rfl) ?_
    refine gS 110 618 (by decide) L_110 (fun _ _ => mF_110) rfl X hw dX12_takeResult_183 h (fun v23 rv23 h => ?_)
    refine lv_bipush hx hb dX12_takeResult_186 (v := jI 15) rfl ?_
    refine kcI (n := 2) (c_isCallOf rv23 (by decide) h) G_isCallOf E_isCallOf X hw (Nat.le_trans (Nat.le_of_ble_eq_true rfl) hRf) (Nat.le_trans (Nat.le_of_ble_eq_true rfl) hRl) rfl hl.1 (Nat.le_of_ble_eq_true rfl) rfl dX12_takeResult_188 (fun v24 u H locs rv24 h hw => ?_)
    refine k_if_eq hx hb rv24 dX12_takeResult_191 (tgt := 224) rfl h (fun h => ?_) (fun h => ?_)
    · exact b_takeResult_224 X hRf hRl hret ra0 rv22 hw (lv_sub hl [1, 2, 0] rfl) h
    · refine lv_aload_n hx hb dX12_takeResult_194 rfl (lv_at hl 1 rfl) ?_
      refine lv_iload_n hx hb dX12_takeResult_195 rfl (lv_at hl 0 rfl) ?_
      refine kcI (n := 1) (c_isBoolean rv22 h) G_isBoolean E_isBoolean X hw (Nat.le_trans (Nat.le_of_ble_eq_true rfl) hRf) (Nat.le_trans (Nat.le_of_ble_eq_true rfl) hRl) rfl hl.1 (Nat.le_of_ble_eq_true rfl) rfl dX12_takeResult_196 (fun v29 u H locs rv29 h hw => ?_)
      refine k_if_ne hx hb rv29 dX12_takeResult_199 (tgt := 224) rfl h (fun h => ?_) (fun h => ?_)
      · exact b_takeResult_224 X hRf hRl hret ra0 rv22 hw (lv_sub hl [1, 2, 0] rfl) h
      · refine lv_aload_n hx hb dX12_takeResult_202 rfl (lv_at hl 1 rfl) ?_
        refine gA 93 193 (by decide) L_93 (fun _ _ => mF_93) rfl X hw dX12_takeResult_203 ?_
        refine lv_iload_n hx hb dX12_takeResult_206 rfl (lv_at hl 2 rfl) ?_
        refine aZ 93 57 56 60 (fun _ _ _ _ => mG_93) (fun _ => rfl) (by decide) X hw ra0 dX12_takeResult_207 rfl h (fun v30 rv30 h => ?_)
        refine k_if_ne hx hb (bz_in rv30) dX12_takeResult_208 (tgt := 224) rfl h (fun h => ?_) (fun h => ?_)
        · exact b_takeResult_224 X hRf hRl hret ra0 rv22 hw (lv_sub hl [1, 2, 0] rfl) h
        · refine lv_aload_n hx hb dX12_takeResult_211 rfl (lv_at hl 1 rfl) ?_
          refine lv_bipush hx hb dX12_takeResult_212 (v := jI 15) rfl ?_
          refine lv_aload_n hx hb dX12_takeResult_214 rfl (lv_at hl 1 rfl) ?_
          refine gS 110 618 (by decide) L_110 (fun _ _ => mF_110) rfl X hw dX12_takeResult_215 h (fun v31 rv31 h => ?_)
          refine lv_iconst hx hb dX12_takeResult_218 (v := jI (-1)) rfl ?_
          refine lv_iconst hx hb dX12_takeResult_219 (v := jI (-1)) rfl ?_
          refine kcI (n := 4) (c_made (by decide) rv31 (by decide) (by decide) h) G_made E_made X hw (Nat.le_trans (Nat.le_of_ble_eq_true rfl) hRf) (Nat.le_trans (Nat.le_of_ble_eq_true rfl) hRl) rfl hl.1 (Nat.le_of_ble_eq_true rfl) rfl dX12_takeResult_220 (fun v32 u H locs rv32 h hw => ?_)
          refine lv_istore_n hx hb dX12_takeResult_223 rfl hl (by decide) rfl (fun ls hl => ?_)
          have hl : lv_has ls 3 [(2, .int (jI v32)), (0, .ref (h0)), (1, .int (jI a0))] := hl
          exact b_takeResult_224 X hRf hRl hret ra0 rv32 hw (lv_sub hl [1, 2, 0] rfl) h
  refine br_sp h (fun ek h => ?_) (fun n39 h => ?_)
  · refine k_lokIn (tgt := 252) (off := 241) hx hb dX12_takeResult_11 ek (by decide) (by decide) (by decide) rfl ?_
    refine lv_aload_n hx hb dX12_takeResult_252 rfl (lv_at hl 0 rfl) ?_
    refine gA 103 220 (by decide) L_103 (fun _ _ => mF_103) rfl X hw dX12_takeResult_253 ?_
    refine lv_aload_n hx hb dX12_takeResult_256 rfl (lv_at hl 0 rfl) ?_
    refine gS 104 647 (by decide) L_104 (fun _ _ => mF_104) rfl X hw dX12_takeResult_257 h (fun v34 rv34 h => ?_)
    refine lv_aload_n hx hb dX12_takeResult_260 rfl (lv_at hl 0 rfl) ?_
    refine gS 110 618 (by decide) L_110 (fun _ _ => mF_110) rfl X hw dX12_takeResult_261 h (fun v35 rv35 h => ?_)
    refine aS 103 66 65 1200 (fun _ _ _ _ => mG_103) (fun _ => rfl) (fun _ _ _ _ _ _ => mSA_103) (by decide) X hw rv34 rv35 dX12_takeResult_264 rfl h (fun H locs u hw h => ?_)
    refine lv_aload_n hx hb dX12_takeResult_265 rfl (lv_at hl 0 rfl) ?_
    refine lv_dup hx hb dX12_takeResult_266 rfl ?_
    refine gS 104 647 (by decide) L_104 (fun _ _ => mF_104) rfl X hw dX12_takeResult_267 h (fun v36 rv36 h => ?_)
    refine lv_iconst hx hb dX12_takeResult_270 (v := jI 1) rfl ?_
    refine k_iadd hx hb dX12_takeResult_271 h (fun r37 h => ?_)
    refine pS 104 647 (by decide) L_104 rfl rfl rfl (fun _ _ _ _ _ => mSI_104) (by decide) X hw r37 dX12_takeResult_272 h (fun H locs u hw h => ?_)
    refine lv_aload_n hx hb dX12_takeResult_275 rfl (lv_at hl 0 rfl) ?_
    refine lv_iload_n hx hb dX12_takeResult_276 rfl (lv_at hl 1 rfl) ?_
    refine kcV (n := 1) (c_nextTerm ra0 h) G_nextTerm E_nextTerm X hw (Nat.le_trans (Nat.le_of_ble_eq_true rfl) hRf) (Nat.le_trans (Nat.le_of_ble_eq_true rfl) hRl) rfl hl.1 (Nat.le_of_ble_eq_true rfl) rfl dX12_takeResult_277 (fun u H locs h hw => ?_)
    exact hret _ _ _ _ _ h hw dX12_takeResult_280
  refine br_sp h (fun ek h => ?_) (fun n47 h => ?_)
  · refine k_lokIn (tgt := 281) (off := 270) hx hb dX12_takeResult_11 ek (by decide) (by decide) (by decide) rfl ?_
    refine lv_aload_n hx hb dX12_takeResult_281 rfl (lv_at hl 0 rfl) ?_
    refine gS 110 618 (by decide) L_110 (fun _ _ => mF_110) rfl X hw dX12_takeResult_282 h (fun v40 rv40 h => ?_)
    refine lv_iconst hx hb dX12_takeResult_285 (v := jI 1) rfl ?_
    refine k_icmp_ne hx hb rv40 (by decide) dX12_takeResult_286 (tgt := 307) rfl h (fun h => ?_) (fun h => ?_)
    · refine lv_aload_n hx hb dX12_takeResult_307 rfl (lv_at hl 0 rfl) ?_
      refine lv_iload_n hx hb dX12_takeResult_308 rfl (lv_at hl 1 rfl) ?_
      refine lv_aload_n hx hb dX12_takeResult_309 rfl (lv_at hl 0 rfl) ?_
      refine gA 100 214 (by decide) L_100 (fun _ _ => mF_100) rfl X hw dX12_takeResult_310 ?_
      refine lv_iload_n hx hb dX12_takeResult_313 rfl (lv_at hl 1 rfl) ?_
      refine aL 100 64 63 60 (fun _ _ _ _ => mG_100) (fun _ => rfl) X hw ra0 dX12_takeResult_314 rfl h (fun v41 rv41 h => ?_)
      refine lv_iconst hx hb dX12_takeResult_315 (v := jI 1) rfl ?_
      refine k_isub hx hb dX12_takeResult_316 h (fun r42 h => ?_)
      refine kcV (n := 2) (c_tryRules ra0 r42 h) G_tryRules E_tryRules X hw (Nat.le_trans (Nat.le_of_ble_eq_true rfl) hRf) (Nat.le_trans (Nat.le_of_ble_eq_true rfl) hRl) rfl hl.1 (Nat.le_of_ble_eq_true rfl) rfl dX12_takeResult_317 (fun u H locs h hw => ?_)
      exact hret _ _ _ _ _ h hw dX12_takeResult_320
    · refine lv_aload_n hx hb dX12_takeResult_289 rfl (lv_at hl 0 rfl) ?_
      refine gA 101 217 (by decide) L_101 (fun _ _ => mF_101) rfl X hw dX12_takeResult_290 ?_
      refine lv_iload_n hx hb dX12_takeResult_293 rfl (lv_at hl 1 rfl) ?_
      refine lv_dup2_11 hx hb dX12_takeResult_294 rfl rfl ?_
      refine aL 101 65 64 60 (fun _ _ _ _ => mG_101) (fun _ => rfl) X hw ra0 dX12_takeResult_295 rfl h (fun v44 rv44 h => ?_)
      refine lv_iconst hx hb dX12_takeResult_296 (v := jI 1) rfl ?_
      refine k_iadd hx hb dX12_takeResult_297 h (fun r45 h => ?_)
      refine aS 101 65 64 60 (fun _ _ _ _ => mG_101) (fun _ => rfl) (fun _ _ _ _ _ _ => mSA_101) (by decide) X hw ra0 r45 dX12_takeResult_298 rfl h (fun H locs u hw h => ?_)
      refine lv_aload_n hx hb dX12_takeResult_299 rfl (lv_at hl 0 rfl) ?_
      refine lv_iload_n hx hb dX12_takeResult_300 rfl (lv_at hl 1 rfl) ?_
      refine kcV (n := 1) (c_nextHypothesis ra0 h) G_nextHypothesis E_nextHypothesis X hw (Nat.le_trans (Nat.le_of_ble_eq_true rfl) hRf) (Nat.le_trans (Nat.le_of_ble_eq_true rfl) hRl) rfl hl.1 (Nat.le_of_ble_eq_true rfl) rfl dX12_takeResult_301 (fun u H locs h hw => ?_)
      refine lv_goto hx hb dX12_takeResult_304 (tgt := 320) rfl ?_
      exact hret _ _ _ _ _ h hw dX12_takeResult_320
  refine br_sp h (fun ek h => ?_) (fun n56 h => ?_)
  · refine k_lokIn (tgt := 321) (off := 310) hx hb dX12_takeResult_11 ek (by decide) (by decide) (by decide) rfl ?_
    refine lv_aload_n hx hb dX12_takeResult_321 rfl (lv_at hl 0 rfl) ?_
    refine lv_aload_n hx hb dX12_takeResult_322 rfl (lv_at hl 0 rfl) ?_
    refine gS 110 618 (by decide) L_110 (fun _ _ => mF_110) rfl X hw dX12_takeResult_323 h (fun v48 rv48 h => ?_)
    refine kcI (n := 1) (c_isConstant rv48 h) G_isConstant E_isConstant X hw (Nat.le_trans (Nat.le_of_ble_eq_true rfl) hRf) (Nat.le_trans (Nat.le_of_ble_eq_true rfl) hRl) rfl hl.1 (Nat.le_of_ble_eq_true rfl) rfl dX12_takeResult_326 (fun v49 u H locs rv49 h hw => ?_)
    refine k_if_eq hx hb rv49 dX12_takeResult_329 (tgt := 361) rfl h (fun h => ?_) (fun h => ?_)
    · refine lv_aload_n hx hb dX12_takeResult_361 rfl (lv_at hl 0 rfl) ?_
      refine lv_aload_n hx hb dX12_takeResult_362 rfl (lv_at hl 0 rfl) ?_
      refine gA 92 190 (by decide) L_92 (fun _ _ => mF_92) rfl X hw dX12_takeResult_363 ?_
      refine lv_iload_n hx hb dX12_takeResult_366 rfl (lv_at hl 1 rfl) ?_
      refine aL 92 56 55 60 (fun _ _ _ _ => mG_92) (fun _ => rfl) X hw ra0 dX12_takeResult_367 rfl h (fun v50 rv50 h => ?_)
      refine kcV (n := 1) (c_end0 rv50 h) G_end0 E_end0 X hw (Nat.le_trans (Nat.le_of_ble_eq_true rfl) hRf) (Nat.le_trans (Nat.le_of_ble_eq_true rfl) hRl) rfl hl.1 (Nat.le_of_ble_eq_true rfl) rfl dX12_takeResult_368 (fun u H locs h hw => ?_)
      exact hret _ _ _ _ _ h hw dX12_takeResult_371
    · refine lv_aload_n hx hb dX12_takeResult_332 rfl (lv_at hl 0 rfl) ?_
      refine lv_aload_n hx hb dX12_takeResult_333 rfl (lv_at hl 0 rfl) ?_
      refine lv_aload_n hx hb dX12_takeResult_334 rfl (lv_at hl 0 rfl) ?_
      refine gA 92 190 (by decide) L_92 (fun _ _ => mF_92) rfl X hw dX12_takeResult_335 ?_
      refine lv_iload_n hx hb dX12_takeResult_338 rfl (lv_at hl 1 rfl) ?_
      refine aL 92 56 55 60 (fun _ _ _ _ => mG_92) (fun _ => rfl) X hw ra0 dX12_takeResult_339 rfl h (fun v52 rv52 h => ?_)
      refine lv_aload_n hx hb dX12_takeResult_340 rfl (lv_at hl 0 rfl) ?_
      refine gS 110 618 (by decide) L_110 (fun _ _ => mF_110) rfl X hw dX12_takeResult_341 h (fun v53 rv53 h => ?_)
      refine k_if_ne hx hb rv53 dX12_takeResult_344 (tgt := 351) rfl h (fun h => ?_) (fun h => ?_)
      · refine lv_iconst hx hb dX12_takeResult_351 (v := jI 2) rfl ?_
        exact b_takeResult_352 X hRf hRl hret rv52 (by decide) hw (lv_sub hl [0] rfl) h
      · refine lv_iconst hx hb dX12_takeResult_347 (v := jI 3) rfl ?_
        refine lv_goto hx hb dX12_takeResult_348 (tgt := 352) rfl ?_
        exact b_takeResult_352 X hRf hRl hret rv52 (by decide) hw (lv_sub hl [0] rfl) h
  refine k_lokOut (tgt := 372) hx hb rv1 dX12_takeResult_11 (by decide) (by simp only [Op.lookupswitch.offset]; rw [if_neg (fun q => n3 q.symm)]; rw [if_neg (fun q => n13 q.symm)]; rw [if_neg (fun q => n20 q.symm)]; rw [if_neg (fun q => n33 q.symm)]; rw [if_neg (fun q => n39 q.symm)]; rw [if_neg (fun q => n47 q.symm)]; rw [if_neg (fun q => n56 q.symm)]) rfl ?_
  refine lv_aload_n hx hb dX12_takeResult_372 rfl (lv_at hl 0 rfl) ?_
  refine lv_aload_n hx hb dX12_takeResult_373 rfl (lv_at hl 0 rfl) ?_
  refine gS 110 618 (by decide) L_110 (fun _ _ => mF_110) rfl X hw dX12_takeResult_374 h (fun v57 rv57 h => ?_)
  refine kcV (n := 1) (c_end0 rv57 h) G_end0 E_end0 X hw (Nat.le_trans (Nat.le_of_ble_eq_true rfl) hRf) (Nat.le_trans (Nat.le_of_ble_eq_true rfl) hRl) rfl hl.1 (Nat.le_of_ble_eq_true rfl) rfl dX12_takeResult_377 (fun u H locs h hw => ?_)
  exact hret _ _ _ _ _ h hw dX12_takeResult_380

end
theorem c_takeResult {l : Launch} {a0 : Int} (ra0 : inR a0) {Q : iST → Prop} {u : iST} (h : w_takeResult a0 Q u) : kMV l yX12_takeResult (.code yX12_takeResult cX12_takeResult 3 none :: wsM) { frames := 11, cells := 0, slots := 0, locals := 258 } [.int (jI a0)] Q u := kMV_of rfl (fun _ => Nat.le_of_ble_eq_true rfl) (fun X hRf hRl hret hw hl => b_takeResult_s X hRf hRl hret ra0 hw hl h)

/-! rewritten -/
theorem dX12_rewritten_0 : decode cX12_rewritten 0 = .ok (.aload_n 0, 1) := by decide +kernel
theorem dX12_rewritten_1 : decode cX12_rewritten 1 = .ok (.iconst 0, 1) := by decide +kernel
theorem dX12_rewritten_2 : decode cX12_rewritten 2 = .ok (.putfield 612, 3) := by decide +kernel
theorem dX12_rewritten_5 : decode cX12_rewritten 5 = .ok (.aload_n 0, 1) := by decide +kernel
theorem dX12_rewritten_6 : decode cX12_rewritten 6 = .ok (.iconst 0, 1) := by decide +kernel
theorem dX12_rewritten_7 : decode cX12_rewritten 7 = .ok (.putfield 647, 3) := by decide +kernel
theorem dX12_rewritten_10 : decode cX12_rewritten 10 = .ok (.aload_n 0, 1) := by decide +kernel
theorem dX12_rewritten_11 : decode cX12_rewritten 11 = .ok (.iconst 0, 1) := by decide +kernel
theorem dX12_rewritten_12 : decode cX12_rewritten 12 = .ok (.putfield 609, 3) := by decide +kernel
theorem dX12_rewritten_15 : decode cX12_rewritten 15 = .ok (.aload_n 0, 1) := by decide +kernel
theorem dX12_rewritten_16 : decode cX12_rewritten 16 = .ok (.iload_n 1, 1) := by decide +kernel
theorem dX12_rewritten_17 : decode cX12_rewritten 17 = .ok (.iload_n 2, 1) := by decide +kernel
theorem dX12_rewritten_18 : decode cX12_rewritten 18 = .ok (.invokevirtual 621, 3) := by decide +kernel
theorem dX12_rewritten_21 : decode cX12_rewritten 21 = .ok (.aload_n 0, 1) := by decide +kernel
theorem dX12_rewritten_22 : decode cX12_rewritten 22 = .ok (.getfield 480, 3) := by decide +kernel
theorem dX12_rewritten_25 : decode cX12_rewritten 25 = .ok (.ifCond .ne 40, 3) := by decide +kernel
theorem dX12_rewritten_28 : decode cX12_rewritten 28 = .ok (.aload_n 0, 1) := by decide +kernel
theorem dX12_rewritten_29 : decode cX12_rewritten 29 = .ok (.getfield 612, 3) := by decide +kernel
theorem dX12_rewritten_32 : decode cX12_rewritten 32 = .ok (.ifCond .le 33, 3) := by decide +kernel
theorem dX12_rewritten_35 : decode cX12_rewritten 35 = .ok (.aload_n 0, 1) := by decide +kernel
theorem dX12_rewritten_36 : decode cX12_rewritten 36 = .ok (.getfield 612, 3) := by decide +kernel
theorem dX12_rewritten_39 : decode cX12_rewritten 39 = .ok (.iconst 1, 1) := by decide +kernel
theorem dX12_rewritten_40 : decode cX12_rewritten 40 = .ok (.isub, 1) := by decide +kernel
theorem dX12_rewritten_41 : decode cX12_rewritten 41 = .ok (.istore_n 3, 1) := by decide +kernel
theorem dX12_rewritten_42 : decode cX12_rewritten 42 = .ok (.aload_n 0, 1) := by decide +kernel
theorem dX12_rewritten_43 : decode cX12_rewritten 43 = .ok (.getfield 609, 3) := by decide +kernel
theorem dX12_rewritten_46 : decode cX12_rewritten 46 = .ok (.ifCond .eq 11, 3) := by decide +kernel
theorem dX12_rewritten_49 : decode cX12_rewritten 49 = .ok (.aload_n 0, 1) := by decide +kernel
theorem dX12_rewritten_50 : decode cX12_rewritten 50 = .ok (.iload_n 3, 1) := by decide +kernel
theorem dX12_rewritten_51 : decode cX12_rewritten 51 = .ok (.invokevirtual 721, 3) := by decide +kernel
theorem dX12_rewritten_54 : decode cX12_rewritten 54 = .ok (.goto 8, 3) := by decide +kernel
theorem dX12_rewritten_57 : decode cX12_rewritten 57 = .ok (.aload_n 0, 1) := by decide +kernel
theorem dX12_rewritten_58 : decode cX12_rewritten 58 = .ok (.iload_n 3, 1) := by decide +kernel
theorem dX12_rewritten_59 : decode cX12_rewritten 59 = .ok (.invokevirtual 724, 3) := by decide +kernel
theorem dX12_rewritten_62 : decode cX12_rewritten 62 = .ok (.goto (-41), 3) := by decide +kernel
theorem dX12_rewritten_65 : decode cX12_rewritten 65 = .ok (.aload_n 0, 1) := by decide +kernel
theorem dX12_rewritten_66 : decode cX12_rewritten 66 = .ok (.getfield 618, 3) := by decide +kernel
theorem dX12_rewritten_69 : decode cX12_rewritten 69 = .ok (.ireturn, 1) := by decide +kernel

section
variable {p : Program} {l : Launch} {e : Env} {R : Room} {s : State} {m : MethodId} {args : Array Value} {below : List Frame} {meth : Method} {c : Code} {H : Heap} {locs : List Loc} {Qf : State → Prop}
variable {ls : Array Slot} {D : va_G} {ca : Nat → ClassId} {A : Nat → Prop} {h0 : Nat} {ad : Nat → Nat} {H0 : Heap} {u : iST}
def w_rewritten_21b (R21 : iST → Prop) (Q : Int → iST → Prop) (u : iST) : Prop :=
  rd (u.1 61) (fun v2 => 
  br (v2 ≠ 0) (
    rd (u.1 110) (fun v3 => 
    Q v3 u)) (
    rd (u.1 102) (fun v4 => 
    br (v4 ≤ 0) (
      rd (u.1 110) (fun v5 => 
      Q v5 u)) (
      rd (u.1 102) (fun v6 => 
      ov (v6 - 1) (
      rz (u.1 111) (fun v8 => 
      br (v8 = 0) (
        w_startJob (v6 - 1) (fun u => 
        R21 u) u) (
        w_takeResult (v6 - 1) (fun u => 
        R21 u) u))))))))
def w_rewritten_21 (Q : Int → iST → Prop) (u : iST) : Prop := ∀ R21 : iST → Prop, (∀ (u : iST), w_rewritten_21b R21 Q u → R21 u) → R21 u
set_option maxRecDepth 20000 in
set_option maxHeartbeats 4000000 in
theorem b_rewritten_21 (X : kX p m c cX12_rewritten 4 s args D ca) (hRf : 12 ≤ R.frames) (hRl : 281 ≤ R.locals) {Q : Int → iST → Prop} (hret : ∀ (v : Int) (u : iST) (H : Heap) (locs : List Loc) (ls : Array Slot) (pc : Nat), inR v → Q v u → kW D ca A h0 ad H0 H locs u → decode cX12_rewritten pc = .ok (.ireturn, 1) → W p l e R s m args below meth c H locs 0 0 Qf (F0 m pc ls [.int (jI v)])) (hw : kW D ca A h0 ad H0 H locs u) (hl : lv_has ls 4 [(0, .ref h0)]) (h : w_rewritten_21 Q u) : W p l e R s m args below meth c H locs 0 0 Qf (F0 m 21 ls []) := by
  refine h (fun u => ∀ (H : Heap) (locs : List Loc) (ls : Array Slot), kW D ca A h0 ad H0 H locs u → lv_has ls 4 [(0, .ref h0)] → W p l e R s m args below meth c H locs 0 0 Qf (F0 m 21 ls [])) ?_ H locs ls hw hl
  clear h hl hw
  intro u h H locs ls hw hl
  have hR21 : ∀ (u : iST) (H : Heap) (locs : List Loc) (ls : Array Slot), kW D ca A h0 ad H0 H locs u → lv_has ls 4 [(0, .ref h0)] → (fun u => ∀ (H : Heap) (locs : List Loc) (ls : Array Slot), kW D ca A h0 ad H0 H locs u → lv_has ls 4 [(0, .ref h0)] → W p l e R s m args below meth c H locs 0 0 Qf (F0 m 21 ls [])) u → W p l e R s m args below meth c H locs 0 0 Qf (F0 m 21 ls []) := fun u H locs ls hw hl h => h H locs ls hw hl
  have hx := X.1.1
  have hb := X.1.2.1
  unfold w_rewritten_21b at h
  refine lv_aload_n hx hb dX12_rewritten_21 rfl (lv_at hl 0 rfl) ?_
  refine gS 61 480 (by decide) L_61 (fun _ _ => mF_61) rfl X hw dX12_rewritten_22 h (fun v2 rv2 h => ?_)
  refine k_if_ne hx hb rv2 dX12_rewritten_25 (tgt := 65) rfl h (fun h => ?_) (fun h => ?_)
  · refine lv_aload_n hx hb dX12_rewritten_65 rfl (lv_at hl 0 rfl) ?_
    refine gS 110 618 (by decide) L_110 (fun _ _ => mF_110) rfl X hw dX12_rewritten_66 h (fun v3 rv3 h => ?_)
    exact hret _ _ _ _ _ _ rv3 h hw dX12_rewritten_69
  · refine lv_aload_n hx hb dX12_rewritten_28 rfl (lv_at hl 0 rfl) ?_
    refine gS 102 612 (by decide) L_102 (fun _ _ => mF_102) rfl X hw dX12_rewritten_29 h (fun v4 rv4 h => ?_)
    refine k_if_le hx hb rv4 dX12_rewritten_32 (tgt := 65) rfl h (fun h => ?_) (fun h => ?_)
    · refine lv_aload_n hx hb dX12_rewritten_65 rfl (lv_at hl 0 rfl) ?_
      refine gS 110 618 (by decide) L_110 (fun _ _ => mF_110) rfl X hw dX12_rewritten_66 h (fun v5 rv5 h => ?_)
      exact hret _ _ _ _ _ _ rv5 h hw dX12_rewritten_69
    · refine lv_aload_n hx hb dX12_rewritten_35 rfl (lv_at hl 0 rfl) ?_
      refine gS 102 612 (by decide) L_102 (fun _ _ => mF_102) rfl X hw dX12_rewritten_36 h (fun v6 rv6 h => ?_)
      refine lv_iconst hx hb dX12_rewritten_39 (v := jI 1) rfl ?_
      refine k_isub hx hb dX12_rewritten_40 h (fun r7 h => ?_)
      refine lv_istore_n hx hb dX12_rewritten_41 rfl hl (by decide) rfl (fun ls hl => ?_)
      have hl : lv_has ls 4 [(3, .int (jI (v6 - 1))), (0, .ref (h0))] := hl
      refine lv_aload_n hx hb dX12_rewritten_42 rfl (lv_at hl 1 rfl) ?_
      refine gZ 111 609 (by decide) L_111 (fun _ _ => mF_111) rfl (by decide) X hw dX12_rewritten_43 h (fun v8 rv8 h => ?_)
      refine k_if_eq hx hb (bz_in rv8) dX12_rewritten_46 (tgt := 57) rfl h (fun h => ?_) (fun h => ?_)
      · refine lv_aload_n hx hb dX12_rewritten_57 rfl (lv_at hl 1 rfl) ?_
        refine lv_iload_n hx hb dX12_rewritten_58 rfl (lv_at hl 0 rfl) ?_
        refine kcV (n := 1) (c_startJob r7 h) G_startJob E_startJob X hw (Nat.le_trans (Nat.le_of_ble_eq_true rfl) hRf) (Nat.le_trans (Nat.le_of_ble_eq_true rfl) hRl) rfl hl.1 (Nat.le_of_ble_eq_true rfl) rfl dX12_rewritten_59 (fun u H locs h hw => ?_)
        refine lv_goto hx hb dX12_rewritten_62 (tgt := 21) rfl ?_
        exact hR21 _ H locs ls hw (lv_sub hl [1] rfl) h
      · refine lv_aload_n hx hb dX12_rewritten_49 rfl (lv_at hl 1 rfl) ?_
        refine lv_iload_n hx hb dX12_rewritten_50 rfl (lv_at hl 0 rfl) ?_
        refine kcV (n := 1) (c_takeResult r7 h) G_takeResult E_takeResult X hw (Nat.le_trans (Nat.le_of_ble_eq_true rfl) hRf) (Nat.le_trans (Nat.le_of_ble_eq_true rfl) hRl) rfl hl.1 (Nat.le_of_ble_eq_true rfl) rfl dX12_rewritten_51 (fun u H locs h hw => ?_)
        refine lv_goto hx hb dX12_rewritten_54 (tgt := 62) rfl ?_
        refine lv_goto hx hb dX12_rewritten_62 (tgt := 21) rfl ?_
        exact hR21 _ H locs ls hw (lv_sub hl [1] rfl) h

def w_rewritten (a0 : Int) (a1 : Int) (Q : Int → iST → Prop) (u : iST) : Prop :=
  sw (iI u 102 0) (fun u => 
  sw (iI u 104 0) (fun u => 
  zt 0 (sw (iI u 111 0) (fun u => 
  w_beginJob a0 a1 (fun u => 
  w_rewritten_21 Q u) u))))
set_option maxRecDepth 20000 in
set_option maxHeartbeats 4000000 in
theorem b_rewritten_s (X : kX p m c cX12_rewritten 4 s args D ca) (hRf : 12 ≤ R.frames) (hRl : 281 ≤ R.locals) {Q : Int → iST → Prop} (hret : ∀ (v : Int) (u : iST) (H : Heap) (locs : List Loc) (ls : Array Slot) (pc : Nat), inR v → Q v u → kW D ca A h0 ad H0 H locs u → decode cX12_rewritten pc = .ok (.ireturn, 1) → W p l e R s m args below meth c H locs 0 0 Qf (F0 m pc ls [.int (jI v)])) {a0 a1 : Int} (ra0 : inR a0) (ra1 : inR a1) (hw : kW D ca A h0 ad H0 H locs u) (hl : lv_has ls 4 [(0, .ref h0), (1, .int (jI a0)), (2, .int (jI a1))]) (h : w_rewritten a0 a1 Q u) : W p l e R s m args below meth c H locs 0 0 Qf (F0 m 0 ls []) := by
  have hx := X.1.1
  have hb := X.1.2.1
  unfold w_rewritten at h
  refine lv_aload_n hx hb dX12_rewritten_0 rfl (lv_at hl 0 rfl) ?_
  refine lv_iconst hx hb dX12_rewritten_1 (v := jI 0) rfl ?_
  refine pS 102 612 (by decide) L_102 rfl rfl rfl (fun _ _ _ _ _ => mSI_102) (by decide) X hw (by decide) dX12_rewritten_2 h (fun H locs u hw h => ?_)
  refine lv_aload_n hx hb dX12_rewritten_5 rfl (lv_at hl 0 rfl) ?_
  refine lv_iconst hx hb dX12_rewritten_6 (v := jI 0) rfl ?_
  refine pS 104 647 (by decide) L_104 rfl rfl rfl (fun _ _ _ _ _ => mSI_104) (by decide) X hw (by decide) dX12_rewritten_7 h (fun H locs u hw h => ?_)
  refine lv_aload_n hx hb dX12_rewritten_10 rfl (lv_at hl 0 rfl) ?_
  refine lv_iconst hx hb dX12_rewritten_11 (v := jI 0) rfl ?_
  refine pZ 111 609 (by decide) L_111 rfl rfl rfl (fun _ _ _ _ _ => mSI_111) X hw dX12_rewritten_12 h (fun H locs u hw h => ?_)
  refine lv_aload_n hx hb dX12_rewritten_15 rfl (lv_at hl 0 rfl) ?_
  refine lv_iload_n hx hb dX12_rewritten_16 rfl (lv_at hl 1 rfl) ?_
  refine lv_iload_n hx hb dX12_rewritten_17 rfl (lv_at hl 2 rfl) ?_
  refine kcV (n := 2) (c_beginJob ra0 ra1 h) G_beginJob E_beginJob X hw (Nat.le_trans (Nat.le_of_ble_eq_true rfl) hRf) (Nat.le_trans (Nat.le_of_ble_eq_true rfl) hRl) rfl hl.1 (Nat.le_of_ble_eq_true rfl) rfl dX12_rewritten_18 (fun u H locs h hw => ?_)
  exact b_rewritten_21 X hRf hRl hret hw (lv_sub hl [0] rfl) h

end
theorem c_rewritten {l : Launch} {a0 : Int} {a1 : Int} (ra0 : inR a0) (ra1 : inR a1) {Q : Int → iST → Prop} {u : iST} (h : w_rewritten a0 a1 Q u) : kMI l yX12_rewritten (.code yX12_rewritten cX12_rewritten 4 (some .int) :: wsM) { frames := 12, cells := 0, slots := 0, locals := 281 } [.int (jI a0), .int (jI a1)] Q u := kMI_of rfl (fun _ => Nat.le_of_ble_eq_true rfl) (fun X hRf hRl hret hw hl => b_rewritten_s X hRf hRl hret ra0 ra1 hw hl h)

/-! put -/
theorem dX12_put_0 : decode cX12_put 0 = .ok (.iconst 0, 1) := by decide +kernel
theorem dX12_put_1 : decode cX12_put 1 = .ok (.istore_n 2, 1) := by decide +kernel
theorem dX12_put_2 : decode cX12_put 2 = .ok (.iload_n 2, 1) := by decide +kernel
theorem dX12_put_3 : decode cX12_put 3 = .ok (.aload_n 0, 1) := by decide +kernel
theorem dX12_put_4 : decode cX12_put 4 = .ok (.getfield 727, 3) := by decide +kernel
theorem dX12_put_7 : decode cX12_put 7 = .ok (.if_icmp .ge 20, 3) := by decide +kernel
theorem dX12_put_10 : decode cX12_put 10 = .ok (.aload_n 0, 1) := by decide +kernel
theorem dX12_put_11 : decode cX12_put 11 = .ok (.getfield 257, 3) := by decide +kernel
theorem dX12_put_14 : decode cX12_put 14 = .ok (.iload_n 2, 1) := by decide +kernel
theorem dX12_put_15 : decode cX12_put 15 = .ok (.iaload, 1) := by decide +kernel
theorem dX12_put_16 : decode cX12_put 16 = .ok (.iload_n 1, 1) := by decide +kernel
theorem dX12_put_17 : decode cX12_put 17 = .ok (.if_icmp .ne 4, 3) := by decide +kernel
theorem dX12_put_20 : decode cX12_put 20 = .ok (.return_, 1) := by decide +kernel
theorem dX12_put_21 : decode cX12_put 21 = .ok (.iinc 2 1, 3) := by decide +kernel
theorem dX12_put_24 : decode cX12_put 24 = .ok (.goto (-22), 3) := by decide +kernel
theorem dX12_put_27 : decode cX12_put 27 = .ok (.aload_n 0, 1) := by decide +kernel
theorem dX12_put_28 : decode cX12_put 28 = .ok (.getfield 257, 3) := by decide +kernel
theorem dX12_put_31 : decode cX12_put 31 = .ok (.aload_n 0, 1) := by decide +kernel
theorem dX12_put_32 : decode cX12_put 32 = .ok (.getfield 727, 3) := by decide +kernel
theorem dX12_put_35 : decode cX12_put 35 = .ok (.iload_n 1, 1) := by decide +kernel
theorem dX12_put_36 : decode cX12_put 36 = .ok (.iastore, 1) := by decide +kernel
theorem dX12_put_37 : decode cX12_put 37 = .ok (.aload_n 0, 1) := by decide +kernel
theorem dX12_put_38 : decode cX12_put 38 = .ok (.dup, 1) := by decide +kernel
theorem dX12_put_39 : decode cX12_put 39 = .ok (.getfield 727, 3) := by decide +kernel
theorem dX12_put_42 : decode cX12_put 42 = .ok (.iconst 1, 1) := by decide +kernel
theorem dX12_put_43 : decode cX12_put 43 = .ok (.iadd, 1) := by decide +kernel
theorem dX12_put_44 : decode cX12_put 44 = .ok (.putfield 727, 3) := by decide +kernel
theorem dX12_put_47 : decode cX12_put 47 = .ok (.return_, 1) := by decide +kernel

section
variable {p : Program} {l : Launch} {e : Env} {R : Room} {s : State} {m : MethodId} {args : Array Value} {below : List Frame} {meth : Method} {c : Code} {H : Heap} {locs : List Loc} {Qf : State → Prop}
variable {ls : Array Slot} {D : va_G} {ca : Nat → ClassId} {A : Nat → Prop} {h0 : Nat} {ad : Nat → Nat} {H0 : Heap} {u : iST}
def w_put_2b (R2 : Int → Int → iST → Prop) (Q : iST → Prop) (x1 : Int) (x2 : Int) (u : iST) : Prop :=
  rd (u.1 122) (fun v1 => 
  br (v1 ≤ x2) (
    rd (u.1 122) (fun v2 => 
    bd v2 1200 (sw (iA u 121 v2 x1) (fun u => 
    rd (u.1 122) (fun v3 => 
    ov (v3 + 1) (
    sw (iI u 122 (v3 + 1)) (fun u => 
    Q u))))))) (
    bd x2 1200 (rd (u.2.1 121 x2) (fun v5 => 
    br (v5 ≠ x1) (
      ov (x2 + 1) (
      R2 x1 (x2 + 1) u)) (
      Q u)))))
def w_put_2 (Q : iST → Prop) (x1 : Int) (x2 : Int) (u : iST) : Prop := ∀ R2 : Int → Int → iST → Prop, (∀ (x1 : Int) (x2 : Int) (u : iST), w_put_2b R2 Q x1 x2 u → R2 x1 x2 u) → R2 x1 x2 u
set_option maxRecDepth 20000 in
set_option maxHeartbeats 4000000 in
theorem b_put_2 (X : kX p m c cX12_put 3 s args D ca) (hRf : 0 ≤ R.frames) (hRl : 0 ≤ R.locals) {Q : iST → Prop} (hret : ∀ (u : iST) (H : Heap) (locs : List Loc) (ls : Array Slot) (pc : Nat), Q u → kW D ca A h0 ad H0 H locs u → decode cX12_put pc = .ok (.return_, 1) → W p l e R s m args below meth c H locs 0 0 Qf (F0 m pc ls [])) {x1 x2 : Int} (rx1 : inR x1) (rx2 : inR x2) (hw : kW D ca A h0 ad H0 H locs u) (hl : lv_has ls 3 [(0, .ref h0), (1, .int (jI x1)), (2, .int (jI x2))]) (h : w_put_2 Q x1 x2 u) : W p l e R s m args below meth c H locs 0 0 Qf (F0 m 2 ls []) := by
  refine h (fun x1 x2 u => ∀ (H : Heap) (locs : List Loc) (ls : Array Slot), inR x1 → inR x2 → kW D ca A h0 ad H0 H locs u → lv_has ls 3 [(0, .ref h0), (1, .int (jI x1)), (2, .int (jI x2))] → W p l e R s m args below meth c H locs 0 0 Qf (F0 m 2 ls [])) ?_ H locs ls rx1 rx2 hw hl
  clear h hl hw rx1 rx2
  intro x1 x2 u h H locs ls rx1 rx2 hw hl
  have hR2 : ∀ (x1 : Int) (x2 : Int) (u : iST) (H : Heap) (locs : List Loc) (ls : Array Slot), inR x1 → inR x2 → kW D ca A h0 ad H0 H locs u → lv_has ls 3 [(0, .ref h0), (1, .int (jI x1)), (2, .int (jI x2))] → (fun (x1 : Int) (x2 : Int) u => ∀ (H : Heap) (locs : List Loc) (ls : Array Slot), inR x1 → inR x2 → kW D ca A h0 ad H0 H locs u → lv_has ls 3 [(0, .ref h0), (1, .int (jI x1)), (2, .int (jI x2))] → W p l e R s m args below meth c H locs 0 0 Qf (F0 m 2 ls [])) x1 x2 u → W p l e R s m args below meth c H locs 0 0 Qf (F0 m 2 ls []) := fun x1 x2 u H locs ls rx1 rx2 hw hl h => h H locs ls rx1 rx2 hw hl
  have hx := X.1.1
  have hb := X.1.2.1
  unfold w_put_2b at h
  refine lv_iload_n hx hb dX12_put_2 rfl (lv_at hl 2 rfl) ?_
  refine lv_aload_n hx hb dX12_put_3 rfl (lv_at hl 0 rfl) ?_
  refine gS 122 727 (by decide) L_122 (fun _ _ => mF_122) rfl X hw dX12_put_4 h (fun v1 rv1 h => ?_)
  refine k_icmp_ge hx hb rx2 rv1 dX12_put_7 (tgt := 27) rfl h (fun h => ?_) (fun h => ?_)
  · refine lv_aload_n hx hb dX12_put_27 rfl (lv_at hl 0 rfl) ?_
    refine gA 121 257 (by decide) L_121 (fun _ _ => mF_121) rfl X hw dX12_put_28 ?_
    refine lv_aload_n hx hb dX12_put_31 rfl (lv_at hl 0 rfl) ?_
    refine gS 122 727 (by decide) L_122 (fun _ _ => mF_122) rfl X hw dX12_put_32 h (fun v2 rv2 h => ?_)
    refine lv_iload_n hx hb dX12_put_35 rfl (lv_at hl 1 rfl) ?_
    refine aS 121 78 77 1200 (fun _ _ _ _ => mG_121) (fun _ => rfl) (fun _ _ _ _ _ _ => mSA_121) (by decide) X hw rv2 rx1 dX12_put_36 rfl h (fun H locs u hw h => ?_)
    refine lv_aload_n hx hb dX12_put_37 rfl (lv_at hl 0 rfl) ?_
    refine lv_dup hx hb dX12_put_38 rfl ?_
    refine gS 122 727 (by decide) L_122 (fun _ _ => mF_122) rfl X hw dX12_put_39 h (fun v3 rv3 h => ?_)
    refine lv_iconst hx hb dX12_put_42 (v := jI 1) rfl ?_
    refine k_iadd hx hb dX12_put_43 h (fun r4 h => ?_)
    refine pS 122 727 (by decide) L_122 rfl rfl rfl (fun _ _ _ _ _ => mSI_122) (by decide) X hw r4 dX12_put_44 h (fun H locs u hw h => ?_)
    exact hret _ _ _ _ _ h hw dX12_put_47
  · refine lv_aload_n hx hb dX12_put_10 rfl (lv_at hl 0 rfl) ?_
    refine gA 121 257 (by decide) L_121 (fun _ _ => mF_121) rfl X hw dX12_put_11 ?_
    refine lv_iload_n hx hb dX12_put_14 rfl (lv_at hl 2 rfl) ?_
    refine aL 121 78 77 1200 (fun _ _ _ _ => mG_121) (fun _ => rfl) X hw rx2 dX12_put_15 rfl h (fun v5 rv5 h => ?_)
    refine lv_iload_n hx hb dX12_put_16 rfl (lv_at hl 1 rfl) ?_
    refine k_icmp_ne hx hb rv5 rx1 dX12_put_17 (tgt := 21) rfl h (fun h => ?_) (fun h => ?_)
    · refine k_iinc (k := 2) hx hb dX12_put_21 hl rfl (by decide) rfl h (fun ls r6 h hl => ?_)
      have hl : lv_has ls 3 [(2, .int (jI (x2 + 1))), (0, .ref (h0)), (1, .int (jI x1))] := hl
      refine lv_goto hx hb dX12_put_24 (tgt := 2) rfl ?_
      exact hR2 _ _ _ H locs ls rx1 r6 hw (lv_sub hl [1, 2, 0] rfl) h
    · exact hret _ _ _ _ _ h hw dX12_put_20

def w_put (a0 : Int) (Q : iST → Prop) (u : iST) : Prop :=
  w_put_2 Q a0 0 u
set_option maxRecDepth 20000 in
set_option maxHeartbeats 4000000 in
theorem b_put_s (X : kX p m c cX12_put 3 s args D ca) (hRf : 0 ≤ R.frames) (hRl : 0 ≤ R.locals) {Q : iST → Prop} (hret : ∀ (u : iST) (H : Heap) (locs : List Loc) (ls : Array Slot) (pc : Nat), Q u → kW D ca A h0 ad H0 H locs u → decode cX12_put pc = .ok (.return_, 1) → W p l e R s m args below meth c H locs 0 0 Qf (F0 m pc ls [])) {a0 : Int} (ra0 : inR a0) (hw : kW D ca A h0 ad H0 H locs u) (hl : lv_has ls 3 [(0, .ref h0), (1, .int (jI a0))]) (h : w_put a0 Q u) : W p l e R s m args below meth c H locs 0 0 Qf (F0 m 0 ls []) := by
  have hx := X.1.1
  have hb := X.1.2.1
  unfold w_put at h
  refine lv_iconst hx hb dX12_put_0 (v := jI 0) rfl ?_
  refine lv_istore_n hx hb dX12_put_1 rfl hl (by decide) rfl (fun ls hl => ?_)
  have hl : lv_has ls 3 [(2, .int (jI 0)), (0, .ref (h0)), (1, .int (jI a0))] := hl
  exact b_put_2 X hRf hRl hret ra0 (by decide) hw (lv_sub hl [1, 2, 0] rfl) h

end
theorem c_put {l : Launch} {a0 : Int} (ra0 : inR a0) {Q : iST → Prop} {u : iST} (h : w_put a0 Q u) : kMV l yX12_put (.code yX12_put cX12_put 3 none :: wsM) { frames := 0, cells := 0, slots := 0, locals := 0 } [.int (jI a0)] Q u := kMV_of rfl (fun _ => Nat.le_of_ble_eq_true rfl) (fun X hRf hRl hret hw hl => b_put_s X hRf hRl hret ra0 hw hl h)

/-! bounded -/
theorem dX12_bounded_0 : decode cX12_bounded 0 = .ok (.iconst 0, 1) := by decide +kernel
theorem dX12_bounded_1 : decode cX12_bounded 1 = .ok (.istore_n 1, 1) := by decide +kernel
theorem dX12_bounded_2 : decode cX12_bounded 2 = .ok (.iconst 0, 1) := by decide +kernel
theorem dX12_bounded_3 : decode cX12_bounded 3 = .ok (.istore_n 2, 1) := by decide +kernel
theorem dX12_bounded_4 : decode cX12_bounded 4 = .ok (.iload_n 2, 1) := by decide +kernel
theorem dX12_bounded_5 : decode cX12_bounded 5 = .ok (.aload_n 0, 1) := by decide +kernel
theorem dX12_bounded_6 : decode cX12_bounded 6 = .ok (.getfield 727, 3) := by decide +kernel
theorem dX12_bounded_9 : decode cX12_bounded 9 = .ok (.if_icmp .ge 22, 3) := by decide +kernel
theorem dX12_bounded_12 : decode cX12_bounded 12 = .ok (.iload_n 1, 1) := by decide +kernel
theorem dX12_bounded_13 : decode cX12_bounded 13 = .ok (.aload_n 0, 1) := by decide +kernel
theorem dX12_bounded_14 : decode cX12_bounded 14 = .ok (.aload_n 0, 1) := by decide +kernel
theorem dX12_bounded_15 : decode cX12_bounded 15 = .ok (.getfield 257, 3) := by decide +kernel
theorem dX12_bounded_18 : decode cX12_bounded 18 = .ok (.iload_n 2, 1) := by decide +kernel
theorem dX12_bounded_19 : decode cX12_bounded 19 = .ok (.iaload, 1) := by decide +kernel
theorem dX12_bounded_20 : decode cX12_bounded 20 = .ok (.invokevirtual 489, 3) := by decide +kernel
theorem dX12_bounded_23 : decode cX12_bounded 23 = .ok (.iadd, 1) := by decide +kernel
theorem dX12_bounded_24 : decode cX12_bounded 24 = .ok (.istore_n 1, 1) := by decide +kernel
theorem dX12_bounded_25 : decode cX12_bounded 25 = .ok (.iinc 2 1, 3) := by decide +kernel
theorem dX12_bounded_28 : decode cX12_bounded 28 = .ok (.goto (-24), 3) := by decide +kernel
theorem dX12_bounded_31 : decode cX12_bounded 31 = .ok (.aload_n 0, 1) := by decide +kernel
theorem dX12_bounded_32 : decode cX12_bounded 32 = .ok (.getfield 727, 3) := by decide +kernel
theorem dX12_bounded_35 : decode cX12_bounded 35 = .ok (.bipush 30, 2) := by decide +kernel
theorem dX12_bounded_37 : decode cX12_bounded 37 = .ok (.if_icmp .gt 10, 3) := by decide +kernel
theorem dX12_bounded_40 : decode cX12_bounded 40 = .ok (.iload_n 1, 1) := by decide +kernel
theorem dX12_bounded_41 : decode cX12_bounded 41 = .ok (.sipush 400, 3) := by decide +kernel
theorem dX12_bounded_44 : decode cX12_bounded 44 = .ok (.if_icmp .le 8, 3) := by decide +kernel
theorem dX12_bounded_47 : decode cX12_bounded 47 = .ok (.aload_n 0, 1) := by decide +kernel
theorem dX12_bounded_48 : decode cX12_bounded 48 = .ok (.iconst 4, 1) := by decide +kernel
theorem dX12_bounded_49 : decode cX12_bounded 49 = .ok (.invokevirtual 517, 3) := by decide +kernel
theorem dX12_bounded_52 : decode cX12_bounded 52 = .ok (.return_, 1) := by decide +kernel

section
variable {p : Program} {l : Launch} {e : Env} {R : Room} {s : State} {m : MethodId} {args : Array Value} {below : List Frame} {meth : Method} {c : Code} {H : Heap} {locs : List Loc} {Qf : State → Prop}
variable {ls : Array Slot} {D : va_G} {ca : Nat → ClassId} {A : Nat → Prop} {h0 : Nat} {ad : Nat → Nat} {H0 : Heap} {u : iST}
def w_bounded_47 (Q : iST → Prop) (u : iST) : Prop :=
  w_fail 4 (fun u => 
  Q u) u
set_option maxRecDepth 20000 in
set_option maxHeartbeats 4000000 in
theorem b_bounded_47 (X : kX p m c cX12_bounded 3 s args D ca) (hRf : 3 ≤ R.frames) (hRl : 63 ≤ R.locals) {Q : iST → Prop} (hret : ∀ (u : iST) (H : Heap) (locs : List Loc) (ls : Array Slot) (pc : Nat), Q u → kW D ca A h0 ad H0 H locs u → decode cX12_bounded pc = .ok (.return_, 1) → W p l e R s m args below meth c H locs 0 0 Qf (F0 m pc ls [])) (hw : kW D ca A h0 ad H0 H locs u) (hl : lv_has ls 3 [(0, .ref h0)]) (h : w_bounded_47 Q u) : W p l e R s m args below meth c H locs 0 0 Qf (F0 m 47 ls []) := by
  have hx := X.1.1
  have hb := X.1.2.1
  unfold w_bounded_47 at h
  refine lv_aload_n hx hb dX12_bounded_47 rfl (lv_at hl 0 rfl) ?_
  refine lv_iconst hx hb dX12_bounded_48 (v := jI 4) rfl ?_
  refine kcV (n := 1) (c_fail (by decide) h) G_fail E_fail X hw (Nat.le_trans (Nat.le_of_ble_eq_true rfl) hRf) (Nat.le_trans (Nat.le_of_ble_eq_true rfl) hRl) rfl hl.1 (Nat.le_of_ble_eq_true rfl) rfl dX12_bounded_49 (fun u H locs h hw => ?_)
  exact hret _ _ _ _ _ h hw dX12_bounded_52

def w_bounded_4b (R4 : Int → Int → iST → Prop) (Q : iST → Prop) (x1 : Int) (x2 : Int) (u : iST) : Prop :=
  rd (u.1 122) (fun v1 => 
  br (v1 ≤ x2) (
    rd (u.1 122) (fun v2 => 
    br (30 < v2) (
      w_bounded_47 Q u) (
      br (x1 ≤ 400) (
        Q u) (
        w_bounded_47 Q u)))) (
    bd x2 1200 (rd (u.2.1 121 x2) (fun v4 => 
    w_sizeOf v4 (fun v5 u => 
    ov (x1 + v5) (
    ov (x2 + 1) (
    R4 (x1 + v5) (x2 + 1) u))) u))))
def w_bounded_4 (Q : iST → Prop) (x1 : Int) (x2 : Int) (u : iST) : Prop := ∀ R4 : Int → Int → iST → Prop, (∀ (x1 : Int) (x2 : Int) (u : iST), w_bounded_4b R4 Q x1 x2 u → R4 x1 x2 u) → R4 x1 x2 u
set_option maxRecDepth 20000 in
set_option maxHeartbeats 4000000 in
theorem b_bounded_4 (X : kX p m c cX12_bounded 3 s args D ca) (hRf : 3 ≤ R.frames) (hRl : 63 ≤ R.locals) {Q : iST → Prop} (hret : ∀ (u : iST) (H : Heap) (locs : List Loc) (ls : Array Slot) (pc : Nat), Q u → kW D ca A h0 ad H0 H locs u → decode cX12_bounded pc = .ok (.return_, 1) → W p l e R s m args below meth c H locs 0 0 Qf (F0 m pc ls [])) {x1 x2 : Int} (rx1 : inR x1) (rx2 : inR x2) (hw : kW D ca A h0 ad H0 H locs u) (hl : lv_has ls 3 [(0, .ref h0), (1, .int (jI x1)), (2, .int (jI x2))]) (h : w_bounded_4 Q x1 x2 u) : W p l e R s m args below meth c H locs 0 0 Qf (F0 m 4 ls []) := by
  refine h (fun x1 x2 u => ∀ (H : Heap) (locs : List Loc) (ls : Array Slot), inR x1 → inR x2 → kW D ca A h0 ad H0 H locs u → lv_has ls 3 [(0, .ref h0), (1, .int (jI x1)), (2, .int (jI x2))] → W p l e R s m args below meth c H locs 0 0 Qf (F0 m 4 ls [])) ?_ H locs ls rx1 rx2 hw hl
  clear h hl hw rx1 rx2
  intro x1 x2 u h H locs ls rx1 rx2 hw hl
  have hR4 : ∀ (x1 : Int) (x2 : Int) (u : iST) (H : Heap) (locs : List Loc) (ls : Array Slot), inR x1 → inR x2 → kW D ca A h0 ad H0 H locs u → lv_has ls 3 [(0, .ref h0), (1, .int (jI x1)), (2, .int (jI x2))] → (fun (x1 : Int) (x2 : Int) u => ∀ (H : Heap) (locs : List Loc) (ls : Array Slot), inR x1 → inR x2 → kW D ca A h0 ad H0 H locs u → lv_has ls 3 [(0, .ref h0), (1, .int (jI x1)), (2, .int (jI x2))] → W p l e R s m args below meth c H locs 0 0 Qf (F0 m 4 ls [])) x1 x2 u → W p l e R s m args below meth c H locs 0 0 Qf (F0 m 4 ls []) := fun x1 x2 u H locs ls rx1 rx2 hw hl h => h H locs ls rx1 rx2 hw hl
  have hx := X.1.1
  have hb := X.1.2.1
  unfold w_bounded_4b at h
  refine lv_iload_n hx hb dX12_bounded_4 rfl (lv_at hl 2 rfl) ?_
  refine lv_aload_n hx hb dX12_bounded_5 rfl (lv_at hl 0 rfl) ?_
  refine gS 122 727 (by decide) L_122 (fun _ _ => mF_122) rfl X hw dX12_bounded_6 h (fun v1 rv1 h => ?_)
  refine k_icmp_ge hx hb rx2 rv1 dX12_bounded_9 (tgt := 31) rfl h (fun h => ?_) (fun h => ?_)
  · refine lv_aload_n hx hb dX12_bounded_31 rfl (lv_at hl 0 rfl) ?_
    refine gS 122 727 (by decide) L_122 (fun _ _ => mF_122) rfl X hw dX12_bounded_32 h (fun v2 rv2 h => ?_)
    refine lv_bipush hx hb dX12_bounded_35 (v := jI 30) rfl ?_
    refine k_icmp_gt hx hb rv2 (by decide) dX12_bounded_37 (tgt := 47) rfl h (fun h => ?_) (fun h => ?_)
    · exact b_bounded_47 X hRf hRl hret hw (lv_sub hl [0] rfl) h
    · refine lv_iload_n hx hb dX12_bounded_40 rfl (lv_at hl 1 rfl) ?_
      refine lv_sipush hx hb dX12_bounded_41 (v := jI 400) rfl ?_
      refine k_icmp_le hx hb rx1 (by decide) dX12_bounded_44 (tgt := 52) rfl h (fun h => ?_) (fun h => ?_)
      · exact hret _ _ _ _ _ h hw dX12_bounded_52
      · exact b_bounded_47 X hRf hRl hret hw (lv_sub hl [0] rfl) h
  · refine lv_iload_n hx hb dX12_bounded_12 rfl (lv_at hl 1 rfl) ?_
    refine lv_aload_n hx hb dX12_bounded_13 rfl (lv_at hl 0 rfl) ?_
    refine lv_aload_n hx hb dX12_bounded_14 rfl (lv_at hl 0 rfl) ?_
    refine gA 121 257 (by decide) L_121 (fun _ _ => mF_121) rfl X hw dX12_bounded_15 ?_
    refine lv_iload_n hx hb dX12_bounded_18 rfl (lv_at hl 2 rfl) ?_
    refine aL 121 78 77 1200 (fun _ _ _ _ => mG_121) (fun _ => rfl) X hw rx2 dX12_bounded_19 rfl h (fun v4 rv4 h => ?_)
    refine kcI (n := 1) (c_sizeOf rv4 h) G_sizeOf E_sizeOf X hw (Nat.le_trans (Nat.le_of_ble_eq_true rfl) hRf) (Nat.le_trans (Nat.le_of_ble_eq_true rfl) hRl) rfl hl.1 (Nat.le_of_ble_eq_true rfl) rfl dX12_bounded_20 (fun v5 u H locs rv5 h hw => ?_)
    refine k_iadd hx hb dX12_bounded_23 h (fun r6 h => ?_)
    refine lv_istore_n hx hb dX12_bounded_24 rfl hl (by decide) rfl (fun ls hl => ?_)
    have hl : lv_has ls 3 [(1, .int (jI (x1 + v5))), (0, .ref (h0)), (2, .int (jI x2))] := hl
    refine k_iinc (k := 2) hx hb dX12_bounded_25 hl rfl (by decide) rfl h (fun ls r7 h hl => ?_)
    have hl : lv_has ls 3 [(2, .int (jI (x2 + 1))), (1, .int (jI (x1 + v5))), (0, .ref (h0))] := hl
    refine lv_goto hx hb dX12_bounded_28 (tgt := 4) rfl ?_
    exact hR4 _ _ _ H locs ls r6 r7 hw (lv_sub hl [2, 1, 0] rfl) h

def w_bounded (Q : iST → Prop) (u : iST) : Prop :=
  w_bounded_4 Q 0 0 u
set_option maxRecDepth 20000 in
set_option maxHeartbeats 4000000 in
theorem b_bounded_s (X : kX p m c cX12_bounded 3 s args D ca) (hRf : 3 ≤ R.frames) (hRl : 63 ≤ R.locals) {Q : iST → Prop} (hret : ∀ (u : iST) (H : Heap) (locs : List Loc) (ls : Array Slot) (pc : Nat), Q u → kW D ca A h0 ad H0 H locs u → decode cX12_bounded pc = .ok (.return_, 1) → W p l e R s m args below meth c H locs 0 0 Qf (F0 m pc ls [])) (hw : kW D ca A h0 ad H0 H locs u) (hl : lv_has ls 3 [(0, .ref h0)]) (h : w_bounded Q u) : W p l e R s m args below meth c H locs 0 0 Qf (F0 m 0 ls []) := by
  have hx := X.1.1
  have hb := X.1.2.1
  unfold w_bounded at h
  refine lv_iconst hx hb dX12_bounded_0 (v := jI 0) rfl ?_
  refine lv_istore_n hx hb dX12_bounded_1 rfl hl (by decide) rfl (fun ls hl => ?_)
  have hl : lv_has ls 3 [(1, .int (jI 0)), (0, .ref (h0))] := hl
  refine lv_iconst hx hb dX12_bounded_2 (v := jI 0) rfl ?_
  refine lv_istore_n hx hb dX12_bounded_3 rfl hl (by decide) rfl (fun ls hl => ?_)
  have hl : lv_has ls 3 [(2, .int (jI 0)), (1, .int (jI 0)), (0, .ref (h0))] := hl
  exact b_bounded_4 X hRf hRl hret (by decide) (by decide) hw (lv_sub hl [2, 1, 0] rfl) h

end
theorem c_bounded {l : Launch} {Q : iST → Prop} {u : iST} (h : w_bounded Q u) : kMV l yX12_bounded (.code yX12_bounded cX12_bounded 3 none :: wsM) { frames := 3, cells := 0, slots := 0, locals := 63 } [] Q u := kMV_of rfl (fun _ => Nat.le_of_ble_eq_true rfl) (fun X hRf hRl hret hw hl => b_bounded_s X hRf hRl hret hw hl h)

/-! row -/
theorem dX12_row_0 : decode cX12_row 0 = .ok (.aload_n 0, 1) := by decide +kernel
theorem dX12_row_1 : decode cX12_row 1 = .ok (.invokevirtual 730, 3) := by decide +kernel
theorem dX12_row_4 : decode cX12_row 4 = .ok (.aload_n 0, 1) := by decide +kernel
theorem dX12_row_5 : decode cX12_row 5 = .ok (.getfield 480, 3) := by decide +kernel
theorem dX12_row_8 : decode cX12_row 8 = .ok (.ifCond .eq 5, 3) := by decide +kernel
theorem dX12_row_11 : decode cX12_row 11 = .ok (.iconst 0, 1) := by decide +kernel
theorem dX12_row_12 : decode cX12_row 12 = .ok (.ireturn, 1) := by decide +kernel
theorem dX12_row_13 : decode cX12_row 13 = .ok (.iconst 0, 1) := by decide +kernel
theorem dX12_row_14 : decode cX12_row 14 = .ok (.istore_n 2, 1) := by decide +kernel
theorem dX12_row_15 : decode cX12_row 15 = .ok (.iload_n 2, 1) := by decide +kernel
theorem dX12_row_16 : decode cX12_row 16 = .ok (.aload_n 0, 1) := by decide +kernel
theorem dX12_row_17 : decode cX12_row 17 = .ok (.getfield 727, 3) := by decide +kernel
theorem dX12_row_20 : decode cX12_row 20 = .ok (.if_icmp .ge 29, 3) := by decide +kernel
theorem dX12_row_23 : decode cX12_row 23 = .ok (.aload_n 0, 1) := by decide +kernel
theorem dX12_row_24 : decode cX12_row 24 = .ok (.getfield 242, 3) := by decide +kernel
theorem dX12_row_27 : decode cX12_row 27 = .ok (.bipush 30, 2) := by decide +kernel
theorem dX12_row_29 : decode cX12_row 29 = .ok (.aload_n 0, 1) := by decide +kernel
theorem dX12_row_30 : decode cX12_row 30 = .ok (.getfield 733, 3) := by decide +kernel
theorem dX12_row_33 : decode cX12_row 33 = .ok (.imul, 1) := by decide +kernel
theorem dX12_row_34 : decode cX12_row 34 = .ok (.iload_n 2, 1) := by decide +kernel
theorem dX12_row_35 : decode cX12_row 35 = .ok (.iadd, 1) := by decide +kernel
theorem dX12_row_36 : decode cX12_row 36 = .ok (.aload_n 0, 1) := by decide +kernel
theorem dX12_row_37 : decode cX12_row 37 = .ok (.getfield 257, 3) := by decide +kernel
theorem dX12_row_40 : decode cX12_row 40 = .ok (.iload_n 2, 1) := by decide +kernel
theorem dX12_row_41 : decode cX12_row 41 = .ok (.iaload, 1) := by decide +kernel
theorem dX12_row_42 : decode cX12_row 42 = .ok (.iastore, 1) := by decide +kernel
theorem dX12_row_43 : decode cX12_row 43 = .ok (.iinc 2 1, 3) := by decide +kernel
theorem dX12_row_46 : decode cX12_row 46 = .ok (.goto (-31), 3) := by decide +kernel
theorem dX12_row_49 : decode cX12_row 49 = .ok (.aload_n 0, 1) := by decide +kernel
theorem dX12_row_50 : decode cX12_row 50 = .ok (.getfield 245, 3) := by decide +kernel
theorem dX12_row_53 : decode cX12_row 53 = .ok (.aload_n 0, 1) := by decide +kernel
theorem dX12_row_54 : decode cX12_row 54 = .ok (.getfield 733, 3) := by decide +kernel
theorem dX12_row_57 : decode cX12_row 57 = .ok (.aload_n 0, 1) := by decide +kernel
theorem dX12_row_58 : decode cX12_row 58 = .ok (.getfield 727, 3) := by decide +kernel
theorem dX12_row_61 : decode cX12_row 61 = .ok (.iastore, 1) := by decide +kernel
theorem dX12_row_62 : decode cX12_row 62 = .ok (.aload_n 0, 1) := by decide +kernel
theorem dX12_row_63 : decode cX12_row 63 = .ok (.getfield 248, 3) := by decide +kernel
theorem dX12_row_66 : decode cX12_row 66 = .ok (.aload_n 0, 1) := by decide +kernel
theorem dX12_row_67 : decode cX12_row 67 = .ok (.getfield 733, 3) := by decide +kernel
theorem dX12_row_70 : decode cX12_row 70 = .ok (.iload_n 1, 1) := by decide +kernel
theorem dX12_row_71 : decode cX12_row 71 = .ok (.iastore, 1) := by decide +kernel
theorem dX12_row_72 : decode cX12_row 72 = .ok (.aload_n 0, 1) := by decide +kernel
theorem dX12_row_73 : decode cX12_row 73 = .ok (.dup, 1) := by decide +kernel
theorem dX12_row_74 : decode cX12_row 74 = .ok (.getfield 733, 3) := by decide +kernel
theorem dX12_row_77 : decode cX12_row 77 = .ok (.iconst 1, 1) := by decide +kernel
theorem dX12_row_78 : decode cX12_row 78 = .ok (.iadd, 1) := by decide +kernel
theorem dX12_row_79 : decode cX12_row 79 = .ok (.putfield 733, 3) := by decide +kernel
theorem dX12_row_82 : decode cX12_row 82 = .ok (.aload_n 0, 1) := by decide +kernel
theorem dX12_row_83 : decode cX12_row 83 = .ok (.getfield 733, 3) := by decide +kernel
theorem dX12_row_86 : decode cX12_row 86 = .ok (.iconst 1, 1) := by decide +kernel
theorem dX12_row_87 : decode cX12_row 87 = .ok (.isub, 1) := by decide +kernel
theorem dX12_row_88 : decode cX12_row 88 = .ok (.ireturn, 1) := by decide +kernel

section
variable {p : Program} {l : Launch} {e : Env} {R : Room} {s : State} {m : MethodId} {args : Array Value} {below : List Frame} {meth : Method} {c : Code} {H : Heap} {locs : List Loc} {Qf : State → Prop}
variable {ls : Array Slot} {D : va_G} {ca : Nat → ClassId} {A : Nat → Prop} {h0 : Nat} {ad : Nat → Nat} {H0 : Heap} {u : iST}
def w_row_15b (R15 : Int → Int → iST → Prop) (Q : Int → iST → Prop) (x1 : Int) (x2 : Int) (u : iST) : Prop :=
  rd (u.1 122) (fun v3 => 
  br (v3 ≤ x2) (
    rd (u.1 117) (fun v4 => 
    rd (u.1 122) (fun v5 => 
    bd v4 2300 (sw (iA u 115 v4 v5) (fun u => 
    rd (u.1 117) (fun v6 => 
    bd v6 2300 (sw (iA u 116 v6 x1) (fun u => 
    rd (u.1 117) (fun v7 => 
    ov (v7 + 1) (
    sw (iI u 117 (v7 + 1)) (fun u => 
    rd (u.1 117) (fun v9 => 
    ov (v9 - 1) (
    Q (v9 - 1) u))))))))))))) (
    rd (u.1 117) (fun v11 => 
    ov (30 * v11) (
    ov ((30 * v11) + x2) (
    bd x2 1200 (rd (u.2.1 121 x2) (fun v14 => 
    bd ((30 * v11) + x2) 69000 (sw (iA u 114 ((30 * v11) + x2) v14) (fun u => 
    ov (x2 + 1) (
    R15 x1 (x2 + 1) u))))))))))
def w_row_15 (Q : Int → iST → Prop) (x1 : Int) (x2 : Int) (u : iST) : Prop := ∀ R15 : Int → Int → iST → Prop, (∀ (x1 : Int) (x2 : Int) (u : iST), w_row_15b R15 Q x1 x2 u → R15 x1 x2 u) → R15 x1 x2 u
set_option maxRecDepth 20000 in
set_option maxHeartbeats 4000000 in
theorem b_row_15 (X : kX p m c cX12_row 3 s args D ca) (hRf : 4 ≤ R.frames) (hRl : 85 ≤ R.locals) {Q : Int → iST → Prop} (hret : ∀ (v : Int) (u : iST) (H : Heap) (locs : List Loc) (ls : Array Slot) (pc : Nat), inR v → Q v u → kW D ca A h0 ad H0 H locs u → decode cX12_row pc = .ok (.ireturn, 1) → W p l e R s m args below meth c H locs 0 0 Qf (F0 m pc ls [.int (jI v)])) {x1 x2 : Int} (rx1 : inR x1) (rx2 : inR x2) (hw : kW D ca A h0 ad H0 H locs u) (hl : lv_has ls 3 [(0, .ref h0), (1, .int (jI x1)), (2, .int (jI x2))]) (h : w_row_15 Q x1 x2 u) : W p l e R s m args below meth c H locs 0 0 Qf (F0 m 15 ls []) := by
  refine h (fun x1 x2 u => ∀ (H : Heap) (locs : List Loc) (ls : Array Slot), inR x1 → inR x2 → kW D ca A h0 ad H0 H locs u → lv_has ls 3 [(0, .ref h0), (1, .int (jI x1)), (2, .int (jI x2))] → W p l e R s m args below meth c H locs 0 0 Qf (F0 m 15 ls [])) ?_ H locs ls rx1 rx2 hw hl
  clear h hl hw rx1 rx2
  intro x1 x2 u h H locs ls rx1 rx2 hw hl
  have hR15 : ∀ (x1 : Int) (x2 : Int) (u : iST) (H : Heap) (locs : List Loc) (ls : Array Slot), inR x1 → inR x2 → kW D ca A h0 ad H0 H locs u → lv_has ls 3 [(0, .ref h0), (1, .int (jI x1)), (2, .int (jI x2))] → (fun (x1 : Int) (x2 : Int) u => ∀ (H : Heap) (locs : List Loc) (ls : Array Slot), inR x1 → inR x2 → kW D ca A h0 ad H0 H locs u → lv_has ls 3 [(0, .ref h0), (1, .int (jI x1)), (2, .int (jI x2))] → W p l e R s m args below meth c H locs 0 0 Qf (F0 m 15 ls [])) x1 x2 u → W p l e R s m args below meth c H locs 0 0 Qf (F0 m 15 ls []) := fun x1 x2 u H locs ls rx1 rx2 hw hl h => h H locs ls rx1 rx2 hw hl
  have hx := X.1.1
  have hb := X.1.2.1
  unfold w_row_15b at h
  refine lv_iload_n hx hb dX12_row_15 rfl (lv_at hl 2 rfl) ?_
  refine lv_aload_n hx hb dX12_row_16 rfl (lv_at hl 0 rfl) ?_
  refine gS 122 727 (by decide) L_122 (fun _ _ => mF_122) rfl X hw dX12_row_17 h (fun v3 rv3 h => ?_)
  refine k_icmp_ge hx hb rx2 rv3 dX12_row_20 (tgt := 49) rfl h (fun h => ?_) (fun h => ?_)
  · refine lv_aload_n hx hb dX12_row_49 rfl (lv_at hl 0 rfl) ?_
    refine gA 115 245 (by decide) L_115 (fun _ _ => mF_115) rfl X hw dX12_row_50 ?_
    refine lv_aload_n hx hb dX12_row_53 rfl (lv_at hl 0 rfl) ?_
    refine gS 117 733 (by decide) L_117 (fun _ _ => mF_117) rfl X hw dX12_row_54 h (fun v4 rv4 h => ?_)
    refine lv_aload_n hx hb dX12_row_57 rfl (lv_at hl 0 rfl) ?_
    refine gS 122 727 (by decide) L_122 (fun _ _ => mF_122) rfl X hw dX12_row_58 h (fun v5 rv5 h => ?_)
    refine aS 115 74 73 2300 (fun _ _ _ _ => mG_115) (fun _ => rfl) (fun _ _ _ _ _ _ => mSA_115) (by decide) X hw rv4 rv5 dX12_row_61 rfl h (fun H locs u hw h => ?_)
    refine lv_aload_n hx hb dX12_row_62 rfl (lv_at hl 0 rfl) ?_
    refine gA 116 248 (by decide) L_116 (fun _ _ => mF_116) rfl X hw dX12_row_63 ?_
    refine lv_aload_n hx hb dX12_row_66 rfl (lv_at hl 0 rfl) ?_
    refine gS 117 733 (by decide) L_117 (fun _ _ => mF_117) rfl X hw dX12_row_67 h (fun v6 rv6 h => ?_)
    refine lv_iload_n hx hb dX12_row_70 rfl (lv_at hl 1 rfl) ?_
    refine aS 116 75 74 2300 (fun _ _ _ _ => mG_116) (fun _ => rfl) (fun _ _ _ _ _ _ => mSA_116) (by decide) X hw rv6 rx1 dX12_row_71 rfl h (fun H locs u hw h => ?_)
    refine lv_aload_n hx hb dX12_row_72 rfl (lv_at hl 0 rfl) ?_
    refine lv_dup hx hb dX12_row_73 rfl ?_
    refine gS 117 733 (by decide) L_117 (fun _ _ => mF_117) rfl X hw dX12_row_74 h (fun v7 rv7 h => ?_)
    refine lv_iconst hx hb dX12_row_77 (v := jI 1) rfl ?_
    refine k_iadd hx hb dX12_row_78 h (fun r8 h => ?_)
    refine pS 117 733 (by decide) L_117 rfl rfl rfl (fun _ _ _ _ _ => mSI_117) (by decide) X hw r8 dX12_row_79 h (fun H locs u hw h => ?_)
    refine lv_aload_n hx hb dX12_row_82 rfl (lv_at hl 0 rfl) ?_
    refine gS 117 733 (by decide) L_117 (fun _ _ => mF_117) rfl X hw dX12_row_83 h (fun v9 rv9 h => ?_)
    refine lv_iconst hx hb dX12_row_86 (v := jI 1) rfl ?_
    refine k_isub hx hb dX12_row_87 h (fun r10 h => ?_)
    exact hret _ _ _ _ _ _ r10 h hw dX12_row_88
  · refine lv_aload_n hx hb dX12_row_23 rfl (lv_at hl 0 rfl) ?_
    refine gA 114 242 (by decide) L_114 (fun _ _ => mF_114) rfl X hw dX12_row_24 ?_
    refine lv_bipush hx hb dX12_row_27 (v := jI 30) rfl ?_
    refine lv_aload_n hx hb dX12_row_29 rfl (lv_at hl 0 rfl) ?_
    refine gS 117 733 (by decide) L_117 (fun _ _ => mF_117) rfl X hw dX12_row_30 h (fun v11 rv11 h => ?_)
    refine k_imul hx hb dX12_row_33 h (fun r12 h => ?_)
    refine lv_iload_n hx hb dX12_row_34 rfl (lv_at hl 2 rfl) ?_
    refine k_iadd hx hb dX12_row_35 h (fun r13 h => ?_)
    refine lv_aload_n hx hb dX12_row_36 rfl (lv_at hl 0 rfl) ?_
    refine gA 121 257 (by decide) L_121 (fun _ _ => mF_121) rfl X hw dX12_row_37 ?_
    refine lv_iload_n hx hb dX12_row_40 rfl (lv_at hl 2 rfl) ?_
    refine aL 121 78 77 1200 (fun _ _ _ _ => mG_121) (fun _ => rfl) X hw rx2 dX12_row_41 rfl h (fun v14 rv14 h => ?_)
    refine aS 114 73 72 69000 (fun _ _ _ _ => mG_114) (fun _ => rfl) (fun _ _ _ _ _ _ => mSA_114) (by decide) X hw r13 rv14 dX12_row_42 rfl h (fun H locs u hw h => ?_)
    refine k_iinc (k := 2) hx hb dX12_row_43 hl rfl (by decide) rfl h (fun ls r15 h hl => ?_)
    have hl : lv_has ls 3 [(2, .int (jI (x2 + 1))), (0, .ref (h0)), (1, .int (jI x1))] := hl
    refine lv_goto hx hb dX12_row_46 (tgt := 15) rfl ?_
    exact hR15 _ _ _ H locs ls rx1 r15 hw (lv_sub hl [1, 2, 0] rfl) h

def w_row (a0 : Int) (Q : Int → iST → Prop) (u : iST) : Prop :=
  w_bounded (fun u => 
  rd (u.1 61) (fun v2 => 
  br (v2 = 0) (
    w_row_15 Q a0 0 u) (
    Q 0 u))) u
set_option maxRecDepth 20000 in
set_option maxHeartbeats 4000000 in
theorem b_row_s (X : kX p m c cX12_row 3 s args D ca) (hRf : 4 ≤ R.frames) (hRl : 85 ≤ R.locals) {Q : Int → iST → Prop} (hret : ∀ (v : Int) (u : iST) (H : Heap) (locs : List Loc) (ls : Array Slot) (pc : Nat), inR v → Q v u → kW D ca A h0 ad H0 H locs u → decode cX12_row pc = .ok (.ireturn, 1) → W p l e R s m args below meth c H locs 0 0 Qf (F0 m pc ls [.int (jI v)])) {a0 : Int} (ra0 : inR a0) (hw : kW D ca A h0 ad H0 H locs u) (hl : lv_has ls 3 [(0, .ref h0), (1, .int (jI a0))]) (h : w_row a0 Q u) : W p l e R s m args below meth c H locs 0 0 Qf (F0 m 0 ls []) := by
  have hx := X.1.1
  have hb := X.1.2.1
  unfold w_row at h
  refine lv_aload_n hx hb dX12_row_0 rfl (lv_at hl 0 rfl) ?_
  refine kcV (n := 0) (c_bounded h) G_bounded E_bounded X hw (Nat.le_trans (Nat.le_of_ble_eq_true rfl) hRf) (Nat.le_trans (Nat.le_of_ble_eq_true rfl) hRl) rfl hl.1 (Nat.le_of_ble_eq_true rfl) rfl dX12_row_1 (fun u H locs h hw => ?_)
  refine lv_aload_n hx hb dX12_row_4 rfl (lv_at hl 0 rfl) ?_
  refine gS 61 480 (by decide) L_61 (fun _ _ => mF_61) rfl X hw dX12_row_5 h (fun v2 rv2 h => ?_)
  refine k_if_eq hx hb rv2 dX12_row_8 (tgt := 13) rfl h (fun h => ?_) (fun h => ?_)
  · refine lv_iconst hx hb dX12_row_13 (v := jI 0) rfl ?_
    refine lv_istore_n hx hb dX12_row_14 rfl hl (by decide) rfl (fun ls hl => ?_)
    have hl : lv_has ls 3 [(2, .int (jI 0)), (0, .ref (h0)), (1, .int (jI a0))] := hl
    exact b_row_15 X hRf hRl hret ra0 (by decide) hw (lv_sub hl [1, 2, 0] rfl) h
  · refine lv_iconst hx hb dX12_row_11 (v := jI 0) rfl ?_
    exact hret _ _ _ _ _ _ (by decide) h hw dX12_row_12

end
theorem c_row {l : Launch} {a0 : Int} (ra0 : inR a0) {Q : Int → iST → Prop} {u : iST} (h : w_row a0 Q u) : kMI l yX12_row (.code yX12_row cX12_row 3 (some .int) :: wsM) { frames := 4, cells := 0, slots := 0, locals := 85 } [.int (jI a0)] Q u := kMI_of rfl (fun _ => Nat.le_of_ble_eq_true rfl) (fun X hRf hRl hret hw hl => b_row_s X hRf hRl hret ra0 hw hl h)
