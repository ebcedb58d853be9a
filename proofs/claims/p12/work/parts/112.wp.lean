/-! hasOnly -/
theorem dX12_hasOnly_0 : decode cX12_hasOnly 0 = .ok (.aload_n 0, 1) := by decide +kernel
theorem dX12_hasOnly_1 : decode cX12_hasOnly 1 = .ok (.iload_n 1, 1) := by decide +kernel
theorem dX12_hasOnly_2 : decode cX12_hasOnly 2 = .ok (.invokevirtual 797, 3) := by decide +kernel
theorem dX12_hasOnly_5 : decode cX12_hasOnly 5 = .ok (.iconst 0, 1) := by decide +kernel
theorem dX12_hasOnly_6 : decode cX12_hasOnly 6 = .ok (.istore_n 3, 1) := by decide +kernel
theorem dX12_hasOnly_7 : decode cX12_hasOnly 7 = .ok (.iload_n 3, 1) := by decide +kernel
theorem dX12_hasOnly_8 : decode cX12_hasOnly 8 = .ok (.aload_n 0, 1) := by decide +kernel
theorem dX12_hasOnly_9 : decode cX12_hasOnly 9 = .ok (.getfield 558, 3) := by decide +kernel
theorem dX12_hasOnly_12 : decode cX12_hasOnly 12 = .ok (.if_icmp .ge 25, 3) := by decide +kernel
theorem dX12_hasOnly_15 : decode cX12_hasOnly 15 = .ok (.aload_n 0, 1) := by decide +kernel
theorem dX12_hasOnly_16 : decode cX12_hasOnly 16 = .ok (.iload_n 2, 1) := by decide +kernel
theorem dX12_hasOnly_17 : decode cX12_hasOnly 17 = .ok (.aload_n 0, 1) := by decide +kernel
theorem dX12_hasOnly_18 : decode cX12_hasOnly 18 = .ok (.getfield 166, 3) := by decide +kernel
theorem dX12_hasOnly_21 : decode cX12_hasOnly 21 = .ok (.iload_n 3, 1) := by decide +kernel
theorem dX12_hasOnly_22 : decode cX12_hasOnly 22 = .ok (.iaload, 1) := by decide +kernel
theorem dX12_hasOnly_23 : decode cX12_hasOnly 23 = .ok (.invokevirtual 800, 3) := by decide +kernel
theorem dX12_hasOnly_26 : decode cX12_hasOnly 26 = .ok (.ifCond .ne 5, 3) := by decide +kernel
theorem dX12_hasOnly_29 : decode cX12_hasOnly 29 = .ok (.iconst 0, 1) := by decide +kernel
theorem dX12_hasOnly_30 : decode cX12_hasOnly 30 = .ok (.ireturn, 1) := by decide +kernel
theorem dX12_hasOnly_31 : decode cX12_hasOnly 31 = .ok (.iinc 3 1, 3) := by decide +kernel
theorem dX12_hasOnly_34 : decode cX12_hasOnly 34 = .ok (.goto (-27), 3) := by decide +kernel
theorem dX12_hasOnly_37 : decode cX12_hasOnly 37 = .ok (.iconst 1, 1) := by decide +kernel
theorem dX12_hasOnly_38 : decode cX12_hasOnly 38 = .ok (.ireturn, 1) := by decide +kernel

section
variable {p : Program} {l : Launch} {e : Env} {R : Room} {s : State} {m : MethodId} {args : Array Value} {below : List Frame} {meth : Method} {c : Code} {H : Heap} {locs : List Loc} {Qf : State → Prop}
variable {ls : Array Slot} {D : va_G} {ca : Nat → ClassId} {A : Nat → Prop} {h0 : Nat} {ad : Nat → Nat} {H0 : Heap} {u : iST}
def w_hasOnly_7b (R7 : Int → Int → iST → Prop) (Q : Int → iST → Prop) (x2 : Int) (x3 : Int) (u : iST) : Prop :=
  rd (u.1 78) (fun v2 => 
  br (v2 ≤ x3) (
    zt 1 (Q 1 u)) (
    bd x3 130 (rd (u.2.1 77 x3) (fun v3 => 
    w_isIn x2 v3 (fun v4 u => 
    br (v4 ≠ 0) (
      ov (x3 + 1) (
      R7 x2 (x3 + 1) u)) (
      zt 0 (Q 0 u))) u))))
def w_hasOnly_7 (Q : Int → iST → Prop) (x2 : Int) (x3 : Int) (u : iST) : Prop := ∀ R7 : Int → Int → iST → Prop, (∀ (x2 : Int) (x3 : Int) (u : iST), w_hasOnly_7b R7 Q x2 x3 u → R7 x2 x3 u) → R7 x2 x3 u
set_option maxRecDepth 20000 in
set_option maxHeartbeats 4000000 in
theorem b_hasOnly_7 (X : kX p m c cX12_hasOnly 4 s args D ca) (hRf : 4 ≤ R.frames) (hRl : 91 ≤ R.locals) {Q : Int → iST → Prop} (hret : ∀ (v : Int) (u : iST) (H : Heap) (locs : List Loc) (ls : Array Slot) (pc : Nat), bz v → Q v u → kW D ca A h0 ad H0 H locs u → decode cX12_hasOnly pc = .ok (.ireturn, 1) → W p l e R s m args below meth c H locs 0 0 Qf (F0 m pc ls [.int (jI v)])) {x2 x3 : Int} (rx2 : inR x2) (rx3 : inR x3) (hw : kW D ca A h0 ad H0 H locs u) (hl : lv_has ls 4 [(0, .ref h0), (2, .int (jI x2)), (3, .int (jI x3))]) (h : w_hasOnly_7 Q x2 x3 u) : W p l e R s m args below meth c H locs 0 0 Qf (F0 m 7 ls []) := by
  refine h (fun x2 x3 u => ∀ (H : Heap) (locs : List Loc) (ls : Array Slot), inR x2 → inR x3 → kW D ca A h0 ad H0 H locs u → lv_has ls 4 [(0, .ref h0), (2, .int (jI x2)), (3, .int (jI x3))] → W p l e R s m args below meth c H locs 0 0 Qf (F0 m 7 ls [])) ?_ H locs ls rx2 rx3 hw hl
  clear h hl hw rx2 rx3
  intro x2 x3 u h H locs ls rx2 rx3 hw hl
  have hR7 : ∀ (x2 : Int) (x3 : Int) (u : iST) (H : Heap) (locs : List Loc) (ls : Array Slot), inR x2 → inR x3 → kW D ca A h0 ad H0 H locs u → lv_has ls 4 [(0, .ref h0), (2, .int (jI x2)), (3, .int (jI x3))] → (fun (x2 : Int) (x3 : Int) u => ∀ (H : Heap) (locs : List Loc) (ls : Array Slot), inR x2 → inR x3 → kW D ca A h0 ad H0 H locs u → lv_has ls 4 [(0, .ref h0), (2, .int (jI x2)), (3, .int (jI x3))] → W p l e R s m args below meth c H locs 0 0 Qf (F0 m 7 ls [])) x2 x3 u → W p l e R s m args below meth c H locs 0 0 Qf (F0 m 7 ls []) := fun x2 x3 u H locs ls rx2 rx3 hw hl h => h H locs ls rx2 rx3 hw hl
  have hx := X.1.1
  have hb := X.1.2.1
  unfold w_hasOnly_7b at h
  refine lv_iload_n hx hb dX12_hasOnly_7 rfl (lv_at hl 2 rfl) ?_
  refine lv_aload_n hx hb dX12_hasOnly_8 rfl (lv_at hl 0 rfl) ?_
  refine gS 78 558 (by decide) L_78 (fun _ _ => mF_78) rfl X hw dX12_hasOnly_9 h (fun v2 rv2 h => ?_)
  refine k_icmp_ge hx hb rx3 rv2 dX12_hasOnly_12 (tgt := 37) rfl h (fun h => ?_) (fun h => ?_)
  · refine lv_iconst hx hb dX12_hasOnly_37 (v := jI 1) rfl ?_
    exact hret _ _ _ _ _ _ h.1 h.2 hw dX12_hasOnly_38
  · refine lv_aload_n hx hb dX12_hasOnly_15 rfl (lv_at hl 0 rfl) ?_
    refine lv_iload_n hx hb dX12_hasOnly_16 rfl (lv_at hl 1 rfl) ?_
    refine lv_aload_n hx hb dX12_hasOnly_17 rfl (lv_at hl 0 rfl) ?_
    refine gA 77 166 (by decide) L_77 (fun _ _ => mF_77) rfl X hw dX12_hasOnly_18 ?_
    refine lv_iload_n hx hb dX12_hasOnly_21 rfl (lv_at hl 2 rfl) ?_
    refine aL 77 48 47 130 (fun _ _ _ _ => mG_77) (fun _ => rfl) X hw rx3 dX12_hasOnly_22 rfl h (fun v3 rv3 h => ?_)
    refine kcI (n := 2) (c_isIn rx2 rv3 h) G_isIn E_isIn X hw (Nat.le_trans (Nat.le_of_ble_eq_true rfl) hRf) (Nat.le_trans (Nat.le_of_ble_eq_true rfl) hRl) rfl hl.1 (Nat.le_of_ble_eq_true rfl) rfl dX12_hasOnly_23 (fun v4 u H locs rv4 h hw => ?_)
    refine k_if_ne hx hb rv4 dX12_hasOnly_26 (tgt := 31) rfl h (fun h => ?_) (fun h => ?_)
    · refine k_iinc (k := 2) hx hb dX12_hasOnly_31 hl rfl (by decide) rfl h (fun ls r5 h hl => ?_)
      have hl : lv_has ls 4 [(3, .int (jI (x3 + 1))), (0, .ref (h0)), (2, .int (jI x2))] := hl
      refine lv_goto hx hb dX12_hasOnly_34 (tgt := 7) rfl ?_
      exact hR7 _ _ _ H locs ls rx2 r5 hw (lv_sub hl [1, 2, 0] rfl) h
    · refine lv_iconst hx hb dX12_hasOnly_29 (v := jI 0) rfl ?_
      exact hret _ _ _ _ _ _ h.1 h.2 hw dX12_hasOnly_30

def w_hasOnly (a0 : Int) (a1 : Int) (Q : Int → iST → Prop) (u : iST) : Prop :=
  w_variablesOf a0 (fun u => 
  w_hasOnly_7 Q a1 0 u) u
set_option maxRecDepth 20000 in
set_option maxHeartbeats 4000000 in
theorem b_hasOnly_s (X : kX p m c cX12_hasOnly 4 s args D ca) (hRf : 4 ≤ R.frames) (hRl : 91 ≤ R.locals) {Q : Int → iST → Prop} (hret : ∀ (v : Int) (u : iST) (H : Heap) (locs : List Loc) (ls : Array Slot) (pc : Nat), bz v → Q v u → kW D ca A h0 ad H0 H locs u → decode cX12_hasOnly pc = .ok (.ireturn, 1) → W p l e R s m args below meth c H locs 0 0 Qf (F0 m pc ls [.int (jI v)])) {a0 a1 : Int} (ra0 : inR a0) (ra1 : inR a1) (hw : kW D ca A h0 ad H0 H locs u) (hl : lv_has ls 4 [(0, .ref h0), (1, .int (jI a0)), (2, .int (jI a1))]) (h : w_hasOnly a0 a1 Q u) : W p l e R s m args below meth c H locs 0 0 Qf (F0 m 0 ls []) := by
  have hx := X.1.1
  have hb := X.1.2.1
  unfold w_hasOnly at h
  refine lv_aload_n hx hb dX12_hasOnly_0 rfl (lv_at hl 0 rfl) ?_
  refine lv_iload_n hx hb dX12_hasOnly_1 rfl (lv_at hl 1 rfl) ?_
  refine kcV (n := 1) (c_variablesOf ra0 h) G_variablesOf E_variablesOf X hw (Nat.le_trans (Nat.le_of_ble_eq_true rfl) hRf) (Nat.le_trans (Nat.le_of_ble_eq_true rfl) hRl) rfl hl.1 (Nat.le_of_ble_eq_true rfl) rfl dX12_hasOnly_2 (fun u H locs h hw => ?_)
  refine lv_iconst hx hb dX12_hasOnly_5 (v := jI 0) rfl ?_
  refine lv_istore_n hx hb dX12_hasOnly_6 rfl hl (by decide) rfl (fun ls hl => ?_)
  have hl : lv_has ls 4 [(3, .int (jI 0)), (0, .ref (h0)), (1, .int (jI a0)), (2, .int (jI a1))] := hl
  exact b_hasOnly_7 X hRf hRl hret ra1 (by decide) hw (lv_sub hl [1, 3, 0] rfl) h

end
theorem c_hasOnly {l : Launch} {a0 : Int} {a1 : Int} (ra0 : inR a0) (ra1 : inR a1) {Q : Int → iST → Prop} {u : iST} (h : w_hasOnly a0 a1 Q u) : kMI l yX12_hasOnly (.code yX12_hasOnly cX12_hasOnly 4 (some .boolean) :: wsM) { frames := 4, cells := 0, slots := 0, locals := 91 } [.int (jI a0), .int (jI a1)] Q u := kMZ_of rfl (fun _ => Nat.le_of_ble_eq_true rfl) (fun X hRf hRl hret hw hl => b_hasOnly_s X hRf hRl hret ra0 ra1 hw hl h)

/-! areApart -/
theorem dX12_areApart_0 : decode cX12_areApart 0 = .ok (.iconst 0, 1) := by decide +kernel
theorem dX12_areApart_1 : decode cX12_areApart 1 = .ok (.istore_n 2, 1) := by decide +kernel
theorem dX12_areApart_2 : decode cX12_areApart 2 = .ok (.iload_n 2, 1) := by decide +kernel
theorem dX12_areApart_3 : decode cX12_areApart 3 = .ok (.aload_n 0, 1) := by decide +kernel
theorem dX12_areApart_4 : decode cX12_areApart 4 = .ok (.getfield 788, 3) := by decide +kernel
theorem dX12_areApart_7 : decode cX12_areApart 7 = .ok (.if_icmp .ge 130, 3) := by decide +kernel
theorem dX12_areApart_10 : decode cX12_areApart 10 = .ok (.iconst 0, 1) := by decide +kernel
theorem dX12_areApart_11 : decode cX12_areApart 11 = .ok (.istore_n 3, 1) := by decide +kernel
theorem dX12_areApart_12 : decode cX12_areApart 12 = .ok (.iload_n 3, 1) := by decide +kernel
theorem dX12_areApart_13 : decode cX12_areApart 13 = .ok (.aload_n 0, 1) := by decide +kernel
theorem dX12_areApart_14 : decode cX12_areApart 14 = .ok (.getfield 266, 3) := by decide +kernel
theorem dX12_areApart_17 : decode cX12_areApart 17 = .ok (.iload_n 2, 1) := by decide +kernel
theorem dX12_areApart_18 : decode cX12_areApart 18 = .ok (.iaload, 1) := by decide +kernel
theorem dX12_areApart_19 : decode cX12_areApart 19 = .ok (.if_icmp .ge 30, 3) := by decide +kernel
theorem dX12_areApart_22 : decode cX12_areApart 22 = .ok (.aload_n 0, 1) := by decide +kernel
theorem dX12_areApart_23 : decode cX12_areApart 23 = .ok (.aload_n 0, 1) := by decide +kernel
theorem dX12_areApart_24 : decode cX12_areApart 24 = .ok (.getfield 263, 3) := by decide +kernel
theorem dX12_areApart_27 : decode cX12_areApart 27 = .ok (.bipush 64, 2) := by decide +kernel
theorem dX12_areApart_29 : decode cX12_areApart 29 = .ok (.iload_n 2, 1) := by decide +kernel
theorem dX12_areApart_30 : decode cX12_areApart 30 = .ok (.imul, 1) := by decide +kernel
theorem dX12_areApart_31 : decode cX12_areApart 31 = .ok (.iload_n 3, 1) := by decide +kernel
theorem dX12_areApart_32 : decode cX12_areApart 32 = .ok (.iadd, 1) := by decide +kernel
theorem dX12_areApart_33 : decode cX12_areApart 33 = .ok (.iaload, 1) := by decide +kernel
theorem dX12_areApart_34 : decode cX12_areApart 34 = .ok (.iload_n 1, 1) := by decide +kernel
theorem dX12_areApart_35 : decode cX12_areApart 35 = .ok (.invokevirtual 803, 3) := by decide +kernel
theorem dX12_areApart_38 : decode cX12_areApart 38 = .ok (.ifCond .eq 5, 3) := by decide +kernel
theorem dX12_areApart_41 : decode cX12_areApart 41 = .ok (.iconst 0, 1) := by decide +kernel
theorem dX12_areApart_42 : decode cX12_areApart 42 = .ok (.ireturn, 1) := by decide +kernel
theorem dX12_areApart_43 : decode cX12_areApart 43 = .ok (.iinc 3 1, 3) := by decide +kernel
theorem dX12_areApart_46 : decode cX12_areApart 46 = .ok (.goto (-34), 3) := by decide +kernel
theorem dX12_areApart_49 : decode cX12_areApart 49 = .ok (.aload_n 0, 1) := by decide +kernel
theorem dX12_areApart_50 : decode cX12_areApart 50 = .ok (.aload_n 0, 1) := by decide +kernel
theorem dX12_areApart_51 : decode cX12_areApart 51 = .ok (.getfield 260, 3) := by decide +kernel
theorem dX12_areApart_54 : decode cX12_areApart 54 = .ok (.iload_n 2, 1) := by decide +kernel
theorem dX12_areApart_55 : decode cX12_areApart 55 = .ok (.iaload, 1) := by decide +kernel
theorem dX12_areApart_56 : decode cX12_areApart 56 = .ok (.iload_n 1, 1) := by decide +kernel
theorem dX12_areApart_57 : decode cX12_areApart 57 = .ok (.invokevirtual 806, 3) := by decide +kernel
theorem dX12_areApart_60 : decode cX12_areApart 60 = .ok (.iconst 0, 1) := by decide +kernel
theorem dX12_areApart_61 : decode cX12_areApart 61 = .ok (.istore_n 3, 1) := by decide +kernel
theorem dX12_areApart_62 : decode cX12_areApart 62 = .ok (.iload_n 3, 1) := by decide +kernel
theorem dX12_areApart_63 : decode cX12_areApart 63 = .ok (.aload_n 0, 1) := by decide +kernel
theorem dX12_areApart_64 : decode cX12_areApart 64 = .ok (.getfield 791, 3) := by decide +kernel
theorem dX12_areApart_67 : decode cX12_areApart 67 = .ok (.if_icmp .ge 64, 3) := by decide +kernel
theorem dX12_areApart_70 : decode cX12_areApart 70 = .ok (.aload_n 0, 1) := by decide +kernel
theorem dX12_areApart_71 : decode cX12_areApart 71 = .ok (.aload_n 0, 1) := by decide +kernel
theorem dX12_areApart_72 : decode cX12_areApart 72 = .ok (.getfield 14, 3) := by decide +kernel
theorem dX12_areApart_75 : decode cX12_areApart 75 = .ok (.aload_n 0, 1) := by decide +kernel
theorem dX12_areApart_76 : decode cX12_areApart 76 = .ok (.getfield 278, 3) := by decide +kernel
theorem dX12_areApart_79 : decode cX12_areApart 79 = .ok (.iload_n 3, 1) := by decide +kernel
theorem dX12_areApart_80 : decode cX12_areApart 80 = .ok (.iaload, 1) := by decide +kernel
theorem dX12_areApart_81 : decode cX12_areApart 81 = .ok (.iaload, 1) := by decide +kernel
theorem dX12_areApart_82 : decode cX12_areApart 82 = .ok (.invokevirtual 529, 3) := by decide +kernel
theorem dX12_areApart_85 : decode cX12_areApart 85 = .ok (.istore 4, 2) := by decide +kernel
theorem dX12_areApart_87 : decode cX12_areApart 87 = .ok (.iconst 1, 1) := by decide +kernel
theorem dX12_areApart_88 : decode cX12_areApart 88 = .ok (.istore 5, 2) := by decide +kernel
theorem dX12_areApart_90 : decode cX12_areApart 90 = .ok (.iload 5, 2) := by decide +kernel
theorem dX12_areApart_92 : decode cX12_areApart 92 = .ok (.iload 4, 2) := by decide +kernel
theorem dX12_areApart_94 : decode cX12_areApart 94 = .ok (.if_icmp .gt 31, 3) := by decide +kernel
theorem dX12_areApart_97 : decode cX12_areApart 97 = .ok (.aload_n 0, 1) := by decide +kernel
theorem dX12_areApart_98 : decode cX12_areApart 98 = .ok (.aload_n 0, 1) := by decide +kernel
theorem dX12_areApart_99 : decode cX12_areApart 99 = .ok (.aload_n 0, 1) := by decide +kernel
theorem dX12_areApart_100 : decode cX12_areApart 100 = .ok (.getfield 278, 3) := by decide +kernel
theorem dX12_areApart_103 : decode cX12_areApart 103 = .ok (.iload_n 3, 1) := by decide +kernel
theorem dX12_areApart_104 : decode cX12_areApart 104 = .ok (.iaload, 1) := by decide +kernel
theorem dX12_areApart_105 : decode cX12_areApart 105 = .ok (.iload 5, 2) := by decide +kernel
theorem dX12_areApart_107 : decode cX12_areApart 107 = .ok (.invokevirtual 592, 3) := by decide +kernel
theorem dX12_areApart_110 : decode cX12_areApart 110 = .ok (.iload_n 1, 1) := by decide +kernel
theorem dX12_areApart_111 : decode cX12_areApart 111 = .ok (.invokevirtual 803, 3) := by decide +kernel
theorem dX12_areApart_114 : decode cX12_areApart 114 = .ok (.ifCond .eq 5, 3) := by decide +kernel
theorem dX12_areApart_117 : decode cX12_areApart 117 = .ok (.iconst 0, 1) := by decide +kernel
theorem dX12_areApart_118 : decode cX12_areApart 118 = .ok (.ireturn, 1) := by decide +kernel
theorem dX12_areApart_119 : decode cX12_areApart 119 = .ok (.iinc 5 1, 3) := by decide +kernel
theorem dX12_areApart_122 : decode cX12_areApart 122 = .ok (.goto (-32), 3) := by decide +kernel
theorem dX12_areApart_125 : decode cX12_areApart 125 = .ok (.iinc 3 1, 3) := by decide +kernel
theorem dX12_areApart_128 : decode cX12_areApart 128 = .ok (.goto (-66), 3) := by decide +kernel
theorem dX12_areApart_131 : decode cX12_areApart 131 = .ok (.iinc 2 1, 3) := by decide +kernel
theorem dX12_areApart_134 : decode cX12_areApart 134 = .ok (.goto (-132), 3) := by decide +kernel
theorem dX12_areApart_137 : decode cX12_areApart 137 = .ok (.iconst 1, 1) := by decide +kernel
theorem dX12_areApart_138 : decode cX12_areApart 138 = .ok (.ireturn, 1) := by decide +kernel

section
variable {p : Program} {l : Launch} {e : Env} {R : Room} {s : State} {m : MethodId} {args : Array Value} {below : List Frame} {meth : Method} {c : Code} {H : Heap} {locs : List Loc} {Qf : State → Prop}
variable {ls : Array Slot} {D : va_G} {ca : Nat → ClassId} {A : Nat → Prop} {h0 : Nat} {ad : Nat → Nat} {H0 : Heap} {u : iST}
def w_areApart_90b (R2 : Int → Int → iST → Prop) (R62 : Int → Int → Int → iST → Prop) (R90 : Int → Int → Int → Int → Int → iST → Prop) (Q : Int → iST → Prop) (x1 : Int) (x2 : Int) (x3 : Int) (x4 : Int) (x5 : Int) (u : iST) : Prop :=
  br (x4 < x5) (
    ov (x3 + 1) (
    R62 x1 x2 (x3 + 1) u)) (
    bd x3 130 (rd (u.2.1 130 x3) (fun v11 => 
    w_term v11 x5 (fun v12 u => 
    w_hasCall v12 x1 (fun v13 u => 
    br (v13 = 0) (
      ov (x5 + 1) (
      R90 x1 x2 x3 x4 (x5 + 1) u)) (
      zt 0 (Q 0 u))) u) u)))
def w_areApart_90 (R2 : Int → Int → iST → Prop) (R62 : Int → Int → Int → iST → Prop) (Q : Int → iST → Prop) (x1 : Int) (x2 : Int) (x3 : Int) (x4 : Int) (x5 : Int) (u : iST) : Prop := ∀ R90 : Int → Int → Int → Int → Int → iST → Prop, (∀ (x1 : Int) (x2 : Int) (x3 : Int) (x4 : Int) (x5 : Int) (u : iST), w_areApart_90b R2 R62 R90 Q x1 x2 x3 x4 x5 u → R90 x1 x2 x3 x4 x5 u) → R90 x1 x2 x3 x4 x5 u
set_option maxRecDepth 20000 in
set_option maxHeartbeats 4000000 in
theorem b_areApart_90 (X : kX p m c cX12_areApart 6 s args D ca) (hRf : 4 ≤ R.frames) (hRl : 90 ≤ R.locals) {Q : Int → iST → Prop} (hret : ∀ (v : Int) (u : iST) (H : Heap) (locs : List Loc) (ls : Array Slot) (pc : Nat), bz v → Q v u → kW D ca A h0 ad H0 H locs u → decode cX12_areApart pc = .ok (.ireturn, 1) → W p l e R s m args below meth c H locs 0 0 Qf (F0 m pc ls [.int (jI v)])) {R2 : Int → Int → iST → Prop} (hR2 : ∀ (x1 : Int) (x2 : Int) (u : iST) (H : Heap) (locs : List Loc) (ls : Array Slot), inR x1 → inR x2 → kW D ca A h0 ad H0 H locs u → lv_has ls 6 [(0, .ref h0), (1, .int (jI x1)), (2, .int (jI x2))] → R2 x1 x2 u → W p l e R s m args below meth c H locs 0 0 Qf (F0 m 2 ls [])) {R62 : Int → Int → Int → iST → Prop} (hR62 : ∀ (x1 : Int) (x2 : Int) (x3 : Int) (u : iST) (H : Heap) (locs : List Loc) (ls : Array Slot), inR x1 → inR x2 → inR x3 → kW D ca A h0 ad H0 H locs u → lv_has ls 6 [(0, .ref h0), (1, .int (jI x1)), (2, .int (jI x2)), (3, .int (jI x3))] → R62 x1 x2 x3 u → W p l e R s m args below meth c H locs 0 0 Qf (F0 m 62 ls [])) {x1 x2 x3 x4 x5 : Int} (rx1 : inR x1) (rx2 : inR x2) (rx3 : inR x3) (rx4 : inR x4) (rx5 : inR x5) (hw : kW D ca A h0 ad H0 H locs u) (hl : lv_has ls 6 [(0, .ref h0), (1, .int (jI x1)), (2, .int (jI x2)), (3, .int (jI x3)), (4, .int (jI x4)), (5, .int (jI x5))]) (h : w_areApart_90 R2 R62 Q x1 x2 x3 x4 x5 u) : W p l e R s m args below meth c H locs 0 0 Qf (F0 m 90 ls []) := by
  refine h (fun x1 x2 x3 x4 x5 u => ∀ (H : Heap) (locs : List Loc) (ls : Array Slot), inR x1 → inR x2 → inR x3 → inR x4 → inR x5 → kW D ca A h0 ad H0 H locs u → lv_has ls 6 [(0, .ref h0), (1, .int (jI x1)), (2, .int (jI x2)), (3, .int (jI x3)), (4, .int (jI x4)), (5, .int (jI x5))] → W p l e R s m args below meth c H locs 0 0 Qf (F0 m 90 ls [])) ?_ H locs ls rx1 rx2 rx3 rx4 rx5 hw hl
  clear h hl hw rx1 rx2 rx3 rx4 rx5
  intro x1 x2 x3 x4 x5 u h H locs ls rx1 rx2 rx3 rx4 rx5 hw hl
  have hR90 : ∀ (x1 : Int) (x2 : Int) (x3 : Int) (x4 : Int) (x5 : Int) (u : iST) (H : Heap) (locs : List Loc) (ls : Array Slot), inR x1 → inR x2 → inR x3 → inR x4 → inR x5 → kW D ca A h0 ad H0 H locs u → lv_has ls 6 [(0, .ref h0), (1, .int (jI x1)), (2, .int (jI x2)), (3, .int (jI x3)), (4, .int (jI x4)), (5, .int (jI x5))] → (fun (x1 : Int) (x2 : Int) (x3 : Int) (x4 : Int) (x5 : Int) u => ∀ (H : Heap) (locs : List Loc) (ls : Array Slot), inR x1 → inR x2 → inR x3 → inR x4 → inR x5 → kW D ca A h0 ad H0 H locs u → lv_has ls 6 [(0, .ref h0), (1, .int (jI x1)), (2, .int (jI x2)), (3, .int (jI x3)), (4, .int (jI x4)), (5, .int (jI x5))] → W p l e R s m args below meth c H locs 0 0 Qf (F0 m 90 ls [])) x1 x2 x3 x4 x5 u → W p l e R s m args below meth c H locs 0 0 Qf (F0 m 90 ls []) := fun x1 x2 x3 x4 x5 u H locs ls rx1 rx2 rx3 rx4 rx5 hw hl h => h H locs ls rx1 rx2 rx3 rx4 rx5 hw hl
  have hx := X.1.1
  have hb := X.1.2.1
  unfold w_areApart_90b at h
  refine lv_iload hx hb dX12_areApart_90 (lv_at hl 5 rfl) ?_
  refine lv_iload hx hb dX12_areApart_92 (lv_at hl 4 rfl) ?_
  refine k_icmp_gt hx hb rx5 rx4 dX12_areApart_94 (tgt := 125) rfl h (fun h => ?_) (fun h => ?_)
  · refine k_iinc (k := 3) hx hb dX12_areApart_125 hl rfl (by decide) rfl h (fun ls r10 h hl => ?_)
    have hl : lv_has ls 6 [(3, .int (jI (x3 + 1))), (0, .ref (h0)), (1, .int (jI x1)), (2, .int (jI x2)), (4, .int (jI x4)), (5, .int (jI x5))] := hl
    refine lv_goto hx hb dX12_areApart_128 (tgt := 62) rfl ?_
    exact hR62 _ _ _ _ H locs ls rx1 rx2 r10 hw (lv_sub hl [1, 2, 3, 0] rfl) h
  · refine lv_aload_n hx hb dX12_areApart_97 rfl (lv_at hl 0 rfl) ?_
    refine lv_aload_n hx hb dX12_areApart_98 rfl (lv_at hl 0 rfl) ?_
    refine lv_aload_n hx hb dX12_areApart_99 rfl (lv_at hl 0 rfl) ?_
    refine gA 130 278 (by decide) L_130 (fun _ _ => mF_130) rfl X hw dX12_areApart_100 ?_
    refine lv_iload_n hx hb dX12_areApart_103 rfl (lv_at hl 3 rfl) ?_
    refine aL 130 85 84 130 (fun _ _ _ _ => mG_130) (fun _ => rfl) X hw rx3 dX12_areApart_104 rfl h (fun v11 rv11 h => ?_)
    refine lv_iload hx hb dX12_areApart_105 (lv_at hl 5 rfl) ?_
    refine kcI (n := 2) (c_term rv11 rx5 h) G_term E_term X hw (Nat.le_trans (Nat.le_of_ble_eq_true rfl) hRf) (Nat.le_trans (Nat.le_of_ble_eq_true rfl) hRl) rfl hl.1 (Nat.le_of_ble_eq_true rfl) rfl dX12_areApart_107 (fun v12 u H locs rv12 h hw => ?_)
    refine lv_iload_n hx hb dX12_areApart_110 rfl (lv_at hl 1 rfl) ?_
    refine kcI (n := 2) (c_hasCall rv12 rx1 h) G_hasCall E_hasCall X hw (Nat.le_trans (Nat.le_of_ble_eq_true rfl) hRf) (Nat.le_trans (Nat.le_of_ble_eq_true rfl) hRl) rfl hl.1 (Nat.le_of_ble_eq_true rfl) rfl dX12_areApart_111 (fun v13 u H locs rv13 h hw => ?_)
    refine k_if_eq hx hb rv13 dX12_areApart_114 (tgt := 119) rfl h (fun h => ?_) (fun h => ?_)
    · refine k_iinc (k := 5) hx hb dX12_areApart_119 hl rfl (by decide) rfl h (fun ls r14 h hl => ?_)
      have hl : lv_has ls 6 [(5, .int (jI (x5 + 1))), (0, .ref (h0)), (1, .int (jI x1)), (2, .int (jI x2)), (3, .int (jI x3)), (4, .int (jI x4))] := hl
      refine lv_goto hx hb dX12_areApart_122 (tgt := 90) rfl ?_
      exact hR90 _ _ _ _ _ _ H locs ls rx1 rx2 rx3 rx4 r14 hw (lv_sub hl [1, 2, 3, 4, 5, 0] rfl) h
    · refine lv_iconst hx hb dX12_areApart_117 (v := jI 0) rfl ?_
      exact hret _ _ _ _ _ _ h.1 h.2 hw dX12_areApart_118

def w_areApart_62b (R2 : Int → Int → iST → Prop) (R62 : Int → Int → Int → iST → Prop) (Q : Int → iST → Prop) (x1 : Int) (x2 : Int) (x3 : Int) (u : iST) : Prop :=
  rd (u.1 131) (fun v5 => 
  br (v5 ≤ x3) (
    ov (x2 + 1) (
    R2 x1 (x2 + 1) u)) (
    bd x3 130 (rd (u.2.1 130 x3) (fun v7 => 
    bd v7 452000 (rd (u.2.1 1 v7) (fun v8 => 
    w_lengthOf v8 (fun v9 u => 
    w_areApart_90 R2 R62 Q x1 x2 x3 v9 1 u) u))))))
def w_areApart_62 (R2 : Int → Int → iST → Prop) (Q : Int → iST → Prop) (x1 : Int) (x2 : Int) (x3 : Int) (u : iST) : Prop := ∀ R62 : Int → Int → Int → iST → Prop, (∀ (x1 : Int) (x2 : Int) (x3 : Int) (u : iST), w_areApart_62b R2 R62 Q x1 x2 x3 u → R62 x1 x2 x3 u) → R62 x1 x2 x3 u
set_option maxRecDepth 20000 in
set_option maxHeartbeats 4000000 in
theorem b_areApart_62 (X : kX p m c cX12_areApart 6 s args D ca) (hRf : 4 ≤ R.frames) (hRl : 90 ≤ R.locals) {Q : Int → iST → Prop} (hret : ∀ (v : Int) (u : iST) (H : Heap) (locs : List Loc) (ls : Array Slot) (pc : Nat), bz v → Q v u → kW D ca A h0 ad H0 H locs u → decode cX12_areApart pc = .ok (.ireturn, 1) → W p l e R s m args below meth c H locs 0 0 Qf (F0 m pc ls [.int (jI v)])) {R2 : Int → Int → iST → Prop} (hR2 : ∀ (x1 : Int) (x2 : Int) (u : iST) (H : Heap) (locs : List Loc) (ls : Array Slot), inR x1 → inR x2 → kW D ca A h0 ad H0 H locs u → lv_has ls 6 [(0, .ref h0), (1, .int (jI x1)), (2, .int (jI x2))] → R2 x1 x2 u → W p l e R s m args below meth c H locs 0 0 Qf (F0 m 2 ls [])) {x1 x2 x3 : Int} (rx1 : inR x1) (rx2 : inR x2) (rx3 : inR x3) (hw : kW D ca A h0 ad H0 H locs u) (hl : lv_has ls 6 [(0, .ref h0), (1, .int (jI x1)), (2, .int (jI x2)), (3, .int (jI x3))]) (h : w_areApart_62 R2 Q x1 x2 x3 u) : W p l e R s m args below meth c H locs 0 0 Qf (F0 m 62 ls []) := by
  refine h (fun x1 x2 x3 u => ∀ (H : Heap) (locs : List Loc) (ls : Array Slot), inR x1 → inR x2 → inR x3 → kW D ca A h0 ad H0 H locs u → lv_has ls 6 [(0, .ref h0), (1, .int (jI x1)), (2, .int (jI x2)), (3, .int (jI x3))] → W p l e R s m args below meth c H locs 0 0 Qf (F0 m 62 ls [])) ?_ H locs ls rx1 rx2 rx3 hw hl
  clear h hl hw rx1 rx2 rx3
  intro x1 x2 x3 u h H locs ls rx1 rx2 rx3 hw hl
  have hR62 : ∀ (x1 : Int) (x2 : Int) (x3 : Int) (u : iST) (H : Heap) (locs : List Loc) (ls : Array Slot), inR x1 → inR x2 → inR x3 → kW D ca A h0 ad H0 H locs u → lv_has ls 6 [(0, .ref h0), (1, .int (jI x1)), (2, .int (jI x2)), (3, .int (jI x3))] → (fun (x1 : Int) (x2 : Int) (x3 : Int) u => ∀ (H : Heap) (locs : List Loc) (ls : Array Slot), inR x1 → inR x2 → inR x3 → kW D ca A h0 ad H0 H locs u → lv_has ls 6 [(0, .ref h0), (1, .int (jI x1)), (2, .int (jI x2)), (3, .int (jI x3))] → W p l e R s m args below meth c H locs 0 0 Qf (F0 m 62 ls [])) x1 x2 x3 u → W p l e R s m args below meth c H locs 0 0 Qf (F0 m 62 ls []) := fun x1 x2 x3 u H locs ls rx1 rx2 rx3 hw hl h => h H locs ls rx1 rx2 rx3 hw hl
  have hx := X.1.1
  have hb := X.1.2.1
  unfold w_areApart_62b at h
  refine lv_iload_n hx hb dX12_areApart_62 rfl (lv_at hl 3 rfl) ?_
  refine lv_aload_n hx hb dX12_areApart_63 rfl (lv_at hl 0 rfl) ?_
  refine gS 131 791 (by decide) L_131 (fun _ _ => mF_131) rfl X hw dX12_areApart_64 h (fun v5 rv5 h => ?_)
  refine k_icmp_ge hx hb rx3 rv5 dX12_areApart_67 (tgt := 131) rfl h (fun h => ?_) (fun h => ?_)
  · refine k_iinc (k := 2) hx hb dX12_areApart_131 hl rfl (by decide) rfl h (fun ls r6 h hl => ?_)
    have hl : lv_has ls 6 [(2, .int (jI (x2 + 1))), (0, .ref (h0)), (1, .int (jI x1)), (3, .int (jI x3))] := hl
    refine lv_goto hx hb dX12_areApart_134 (tgt := 2) rfl ?_
    exact hR2 _ _ _ H locs ls rx1 r6 hw (lv_sub hl [1, 2, 0] rfl) h
  · refine lv_aload_n hx hb dX12_areApart_70 rfl (lv_at hl 0 rfl) ?_
    refine lv_aload_n hx hb dX12_areApart_71 rfl (lv_at hl 0 rfl) ?_
    refine gA 1 14 (by decide) L_1 (fun _ _ => mF_1) rfl X hw dX12_areApart_72 ?_
    refine lv_aload_n hx hb dX12_areApart_75 rfl (lv_at hl 0 rfl) ?_
    refine gA 130 278 (by decide) L_130 (fun _ _ => mF_130) rfl X hw dX12_areApart_76 ?_
    refine lv_iload_n hx hb dX12_areApart_79 rfl (lv_at hl 3 rfl) ?_
    refine aL 130 85 84 130 (fun _ _ _ _ => mG_130) (fun _ => rfl) X hw rx3 dX12_areApart_80 rfl h (fun v7 rv7 h => ?_)
    refine aL 1 2 1 452000 (fun _ _ _ _ => mG_1) (fun _ => rfl) X hw rv7 dX12_areApart_81 rfl h (fun v8 rv8 h => ?_)
    refine kcI (n := 1) (c_lengthOf rv8 h) G_lengthOf E_lengthOf X hw (Nat.le_trans (Nat.le_of_ble_eq_true rfl) hRf) (Nat.le_trans (Nat.le_of_ble_eq_true rfl) hRl) rfl hl.1 (Nat.le_of_ble_eq_true rfl) rfl dX12_areApart_82 (fun v9 u H locs rv9 h hw => ?_)
    refine lv_istore hx hb dX12_areApart_85 hl (by decide) rfl (fun ls hl => ?_)
    have hl : lv_has ls 6 [(4, .int (jI v9)), (0, .ref (h0)), (1, .int (jI x1)), (2, .int (jI x2)), (3, .int (jI x3))] := hl
    refine lv_iconst hx hb dX12_areApart_87 (v := jI 1) rfl ?_
    refine lv_istore hx hb dX12_areApart_88 hl (by decide) rfl (fun ls hl => ?_)
    have hl : lv_has ls 6 [(5, .int (jI 1)), (4, .int (jI v9)), (0, .ref (h0)), (1, .int (jI x1)), (2, .int (jI x2)), (3, .int (jI x3))] := hl
    exact b_areApart_90 X hRf hRl hret hR2 hR62 rx1 rx2 rx3 rv9 (by decide) hw (lv_sub hl [2, 3, 4, 5, 1, 0] rfl) h

def w_areApart_12b (R2 : Int → Int → iST → Prop) (R12 : Int → Int → Int → iST → Prop) (Q : Int → iST → Prop) (x1 : Int) (x2 : Int) (x3 : Int) (u : iST) : Prop :=
  bd x2 128 (rd (u.2.1 125 x2) (fun v2 => 
  br (v2 ≤ x3) (
    bd x2 128 (rd (u.2.1 123 x2) (fun v3 => 
    w_find v3 x1 (fun u => 
    w_areApart_62 R2 Q x1 x2 0 u) u))) (
    ov (64 * x2) (
    ov ((64 * x2) + x3) (
    bd ((64 * x2) + x3) 8192 (rd (u.2.1 124 ((64 * x2) + x3)) (fun v17 => 
    w_hasCall v17 x1 (fun v18 u => 
    br (v18 = 0) (
      ov (x3 + 1) (
      R12 x1 x2 (x3 + 1) u)) (
      zt 0 (Q 0 u))) u)))))))
def w_areApart_12 (R2 : Int → Int → iST → Prop) (Q : Int → iST → Prop) (x1 : Int) (x2 : Int) (x3 : Int) (u : iST) : Prop := ∀ R12 : Int → Int → Int → iST → Prop, (∀ (x1 : Int) (x2 : Int) (x3 : Int) (u : iST), w_areApart_12b R2 R12 Q x1 x2 x3 u → R12 x1 x2 x3 u) → R12 x1 x2 x3 u
set_option maxRecDepth 20000 in
set_option maxHeartbeats 4000000 in
theorem b_areApart_12 (X : kX p m c cX12_areApart 6 s args D ca) (hRf : 4 ≤ R.frames) (hRl : 90 ≤ R.locals) {Q : Int → iST → Prop} (hret : ∀ (v : Int) (u : iST) (H : Heap) (locs : List Loc) (ls : Array Slot) (pc : Nat), bz v → Q v u → kW D ca A h0 ad H0 H locs u → decode cX12_areApart pc = .ok (.ireturn, 1) → W p l e R s m args below meth c H locs 0 0 Qf (F0 m pc ls [.int (jI v)])) {R2 : Int → Int → iST → Prop} (hR2 : ∀ (x1 : Int) (x2 : Int) (u : iST) (H : Heap) (locs : List Loc) (ls : Array Slot), inR x1 → inR x2 → kW D ca A h0 ad H0 H locs u → lv_has ls 6 [(0, .ref h0), (1, .int (jI x1)), (2, .int (jI x2))] → R2 x1 x2 u → W p l e R s m args below meth c H locs 0 0 Qf (F0 m 2 ls [])) {x1 x2 x3 : Int} (rx1 : inR x1) (rx2 : inR x2) (rx3 : inR x3) (hw : kW D ca A h0 ad H0 H locs u) (hl : lv_has ls 6 [(0, .ref h0), (1, .int (jI x1)), (2, .int (jI x2)), (3, .int (jI x3))]) (h : w_areApart_12 R2 Q x1 x2 x3 u) : W p l e R s m args below meth c H locs 0 0 Qf (F0 m 12 ls []) := by
  refine h (fun x1 x2 x3 u => ∀ (H : Heap) (locs : List Loc) (ls : Array Slot), inR x1 → inR x2 → inR x3 → kW D ca A h0 ad H0 H locs u → lv_has ls 6 [(0, .ref h0), (1, .int (jI x1)), (2, .int (jI x2)), (3, .int (jI x3))] → W p l e R s m args below meth c H locs 0 0 Qf (F0 m 12 ls [])) ?_ H locs ls rx1 rx2 rx3 hw hl
  clear h hl hw rx1 rx2 rx3
  intro x1 x2 x3 u h H locs ls rx1 rx2 rx3 hw hl
  have hR12 : ∀ (x1 : Int) (x2 : Int) (x3 : Int) (u : iST) (H : Heap) (locs : List Loc) (ls : Array Slot), inR x1 → inR x2 → inR x3 → kW D ca A h0 ad H0 H locs u → lv_has ls 6 [(0, .ref h0), (1, .int (jI x1)), (2, .int (jI x2)), (3, .int (jI x3))] → (fun (x1 : Int) (x2 : Int) (x3 : Int) u => ∀ (H : Heap) (locs : List Loc) (ls : Array Slot), inR x1 → inR x2 → inR x3 → kW D ca A h0 ad H0 H locs u → lv_has ls 6 [(0, .ref h0), (1, .int (jI x1)), (2, .int (jI x2)), (3, .int (jI x3))] → W p l e R s m args below meth c H locs 0 0 Qf (F0 m 12 ls [])) x1 x2 x3 u → W p l e R s m args below meth c H locs 0 0 Qf (F0 m 12 ls []) := fun x1 x2 x3 u H locs ls rx1 rx2 rx3 hw hl h => h H locs ls rx1 rx2 rx3 hw hl
  have hx := X.1.1
  have hb := X.1.2.1
  unfold w_areApart_12b at h
  refine lv_iload_n hx hb dX12_areApart_12 rfl (lv_at hl 3 rfl) ?_
  refine lv_aload_n hx hb dX12_areApart_13 rfl (lv_at hl 0 rfl) ?_
  refine gA 125 266 (by decide) L_125 (fun _ _ => mF_125) rfl X hw dX12_areApart_14 ?_
  refine lv_iload_n hx hb dX12_areApart_17 rfl (lv_at hl 2 rfl) ?_
  refine aL 125 81 80 128 (fun _ _ _ _ => mG_125) (fun _ => rfl) X hw rx2 dX12_areApart_18 rfl h (fun v2 rv2 h => ?_)
  refine k_icmp_ge hx hb rx3 rv2 dX12_areApart_19 (tgt := 49) rfl h (fun h => ?_) (fun h => ?_)
  · refine lv_aload_n hx hb dX12_areApart_49 rfl (lv_at hl 0 rfl) ?_
    refine lv_aload_n hx hb dX12_areApart_50 rfl (lv_at hl 0 rfl) ?_
    refine gA 123 260 (by decide) L_123 (fun _ _ => mF_123) rfl X hw dX12_areApart_51 ?_
    refine lv_iload_n hx hb dX12_areApart_54 rfl (lv_at hl 2 rfl) ?_
    refine aL 123 79 78 128 (fun _ _ _ _ => mG_123) (fun _ => rfl) X hw rx2 dX12_areApart_55 rfl h (fun v3 rv3 h => ?_)
    refine lv_iload_n hx hb dX12_areApart_56 rfl (lv_at hl 1 rfl) ?_
    refine kcV (n := 2) (c_find rv3 rx1 h) G_find E_find X hw (Nat.le_trans (Nat.le_of_ble_eq_true rfl) hRf) (Nat.le_trans (Nat.le_of_ble_eq_true rfl) hRl) rfl hl.1 (Nat.le_of_ble_eq_true rfl) rfl dX12_areApart_57 (fun u H locs h hw => ?_)
    refine lv_iconst hx hb dX12_areApart_60 (v := jI 0) rfl ?_
    refine lv_istore_n hx hb dX12_areApart_61 rfl hl (by decide) rfl (fun ls hl => ?_)
    have hl : lv_has ls 6 [(3, .int (jI 0)), (0, .ref (h0)), (1, .int (jI x1)), (2, .int (jI x2))] := hl
    exact b_areApart_62 X hRf hRl hret hR2 rx1 rx2 (by decide) hw (lv_sub hl [1, 2, 3, 0] rfl) h
  · refine lv_aload_n hx hb dX12_areApart_22 rfl (lv_at hl 0 rfl) ?_
    refine lv_aload_n hx hb dX12_areApart_23 rfl (lv_at hl 0 rfl) ?_
    refine gA 124 263 (by decide) L_124 (fun _ _ => mF_124) rfl X hw dX12_areApart_24 ?_
    refine lv_bipush hx hb dX12_areApart_27 (v := jI 64) rfl ?_
    refine lv_iload_n hx hb dX12_areApart_29 rfl (lv_at hl 2 rfl) ?_
    refine k_imul hx hb dX12_areApart_30 h (fun r15 h => ?_)
    refine lv_iload_n hx hb dX12_areApart_31 rfl (lv_at hl 3 rfl) ?_
    refine k_iadd hx hb dX12_areApart_32 h (fun r16 h => ?_)
    refine aL 124 80 79 8192 (fun _ _ _ _ => mG_124) (fun _ => rfl) X hw r16 dX12_areApart_33 rfl h (fun v17 rv17 h => ?_)
    refine lv_iload_n hx hb dX12_areApart_34 rfl (lv_at hl 1 rfl) ?_
    refine kcI (n := 2) (c_hasCall rv17 rx1 h) G_hasCall E_hasCall X hw (Nat.le_trans (Nat.le_of_ble_eq_true rfl) hRf) (Nat.le_trans (Nat.le_of_ble_eq_true rfl) hRl) rfl hl.1 (Nat.le_of_ble_eq_true rfl) rfl dX12_areApart_35 (fun v18 u H locs rv18 h hw => ?_)
    refine k_if_eq hx hb rv18 dX12_areApart_38 (tgt := 43) rfl h (fun h => ?_) (fun h => ?_)
    · refine k_iinc (k := 3) hx hb dX12_areApart_43 hl rfl (by decide) rfl h (fun ls r19 h hl => ?_)
      have hl : lv_has ls 6 [(3, .int (jI (x3 + 1))), (0, .ref (h0)), (1, .int (jI x1)), (2, .int (jI x2))] := hl
      refine lv_goto hx hb dX12_areApart_46 (tgt := 12) rfl ?_
      exact hR12 _ _ _ _ H locs ls rx1 rx2 r19 hw (lv_sub hl [1, 2, 3, 0] rfl) h
    · refine lv_iconst hx hb dX12_areApart_41 (v := jI 0) rfl ?_
      exact hret _ _ _ _ _ _ h.1 h.2 hw dX12_areApart_42

def w_areApart_2b (R2 : Int → Int → iST → Prop) (Q : Int → iST → Prop) (x1 : Int) (x2 : Int) (u : iST) : Prop :=
  rd (u.1 126) (fun v1 => 
  br (v1 ≤ x2) (
    zt 1 (Q 1 u)) (
    w_areApart_12 R2 Q x1 x2 0 u))
def w_areApart_2 (Q : Int → iST → Prop) (x1 : Int) (x2 : Int) (u : iST) : Prop := ∀ R2 : Int → Int → iST → Prop, (∀ (x1 : Int) (x2 : Int) (u : iST), w_areApart_2b R2 Q x1 x2 u → R2 x1 x2 u) → R2 x1 x2 u
set_option maxRecDepth 20000 in
set_option maxHeartbeats 4000000 in
theorem b_areApart_2 (X : kX p m c cX12_areApart 6 s args D ca) (hRf : 4 ≤ R.frames) (hRl : 90 ≤ R.locals) {Q : Int → iST → Prop} (hret : ∀ (v : Int) (u : iST) (H : Heap) (locs : List Loc) (ls : Array Slot) (pc : Nat), bz v → Q v u → kW D ca A h0 ad H0 H locs u → decode cX12_areApart pc = .ok (.ireturn, 1) → W p l e R s m args below meth c H locs 0 0 Qf (F0 m pc ls [.int (jI v)])) {x1 x2 : Int} (rx1 : inR x1) (rx2 : inR x2) (hw : kW D ca A h0 ad H0 H locs u) (hl : lv_has ls 6 [(0, .ref h0), (1, .int (jI x1)), (2, .int (jI x2))]) (h : w_areApart_2 Q x1 x2 u) : W p l e R s m args below meth c H locs 0 0 Qf (F0 m 2 ls []) := by
  refine h (fun x1 x2 u => ∀ (H : Heap) (locs : List Loc) (ls : Array Slot), inR x1 → inR x2 → kW D ca A h0 ad H0 H locs u → lv_has ls 6 [(0, .ref h0), (1, .int (jI x1)), (2, .int (jI x2))] → W p l e R s m args below meth c H locs 0 0 Qf (F0 m 2 ls [])) ?_ H locs ls rx1 rx2 hw hl
  clear h hl hw rx1 rx2
  intro x1 x2 u h H locs ls rx1 rx2 hw hl
  have hR2 : ∀ (x1 : Int) (x2 : Int) (u : iST) (H : Heap) (locs : List Loc) (ls : Array Slot), inR x1 → inR x2 → kW D ca A h0 ad H0 H locs u → lv_has ls 6 [(0, .ref h0), (1, .int (jI x1)), (2, .int (jI x2))] → (fun (x1 : Int) (x2 : Int) u => ∀ (H : Heap) (locs : List Loc) (ls : Array Slot), inR x1 → inR x2 → kW D ca A h0 ad H0 H locs u → lv_has ls 6 [(0, .ref h0), (1, .int (jI x1)), (2, .int (jI x2))] → W p l e R s m args below meth c H locs 0 0 Qf (F0 m 2 ls [])) x1 x2 u → W p l e R s m args below meth c H locs 0 0 Qf (F0 m 2 ls []) := fun x1 x2 u H locs ls rx1 rx2 hw hl h => h H locs ls rx1 rx2 hw hl
  have hx := X.1.1
  have hb := X.1.2.1
  unfold w_areApart_2b at h
  refine lv_iload_n hx hb dX12_areApart_2 rfl (lv_at hl 2 rfl) ?_
  refine lv_aload_n hx hb dX12_areApart_3 rfl (lv_at hl 0 rfl) ?_
  refine gS 126 788 (by decide) L_126 (fun _ _ => mF_126) rfl X hw dX12_areApart_4 h (fun v1 rv1 h => ?_)
  refine k_icmp_ge hx hb rx2 rv1 dX12_areApart_7 (tgt := 137) rfl h (fun h => ?_) (fun h => ?_)
  · refine lv_iconst hx hb dX12_areApart_137 (v := jI 1) rfl ?_
    exact hret _ _ _ _ _ _ h.1 h.2 hw dX12_areApart_138
  · refine lv_iconst hx hb dX12_areApart_10 (v := jI 0) rfl ?_
    refine lv_istore_n hx hb dX12_areApart_11 rfl hl (by decide) rfl (fun ls hl => ?_)
    have hl : lv_has ls 6 [(3, .int (jI 0)), (0, .ref (h0)), (1, .int (jI x1)), (2, .int (jI x2))] := hl
    exact b_areApart_12 X hRf hRl hret hR2 rx1 rx2 (by decide) hw (lv_sub hl [1, 2, 3, 0] rfl) h

def w_areApart (a0 : Int) (Q : Int → iST → Prop) (u : iST) : Prop :=
  w_areApart_2 Q a0 0 u
set_option maxRecDepth 20000 in
set_option maxHeartbeats 4000000 in
theorem b_areApart_s (X : kX p m c cX12_areApart 6 s args D ca) (hRf : 4 ≤ R.frames) (hRl : 90 ≤ R.locals) {Q : Int → iST → Prop} (hret : ∀ (v : Int) (u : iST) (H : Heap) (locs : List Loc) (ls : Array Slot) (pc : Nat), bz v → Q v u → kW D ca A h0 ad H0 H locs u → decode cX12_areApart pc = .ok (.ireturn, 1) → W p l e R s m args below meth c H locs 0 0 Qf (F0 m pc ls [.int (jI v)])) {a0 : Int} (ra0 : inR a0) (hw : kW D ca A h0 ad H0 H locs u) (hl : lv_has ls 6 [(0, .ref h0), (1, .int (jI a0))]) (h : w_areApart a0 Q u) : W p l e R s m args below meth c H locs 0 0 Qf (F0 m 0 ls []) := by
  have hx := X.1.1
  have hb := X.1.2.1
  unfold w_areApart at h
  refine lv_iconst hx hb dX12_areApart_0 (v := jI 0) rfl ?_
  refine lv_istore_n hx hb dX12_areApart_1 rfl hl (by decide) rfl (fun ls hl => ?_)
  have hl : lv_has ls 6 [(2, .int (jI 0)), (0, .ref (h0)), (1, .int (jI a0))] := hl
  exact b_areApart_2 X hRf hRl hret ra0 (by decide) hw (lv_sub hl [1, 2, 0] rfl) h

end
theorem c_areApart {l : Launch} {a0 : Int} (ra0 : inR a0) {Q : Int → iST → Prop} {u : iST} (h : w_areApart a0 Q u) : kMI l yX12_areApart (.code yX12_areApart cX12_areApart 6 (some .boolean) :: wsM) { frames := 4, cells := 0, slots := 0, locals := 90 } [.int (jI a0)] Q u := kMZ_of rfl (fun _ => Nat.le_of_ble_eq_true rfl) (fun X hRf hRl hret hw hl => b_areApart_s X hRf hRl hret ra0 hw hl h)

/-! measureRows -/
theorem dX12_measureRows_0 : decode cX12_measureRows 0 = .ok (.aload_n 0, 1) := by decide +kernel
theorem dX12_measureRows_1 : decode cX12_measureRows 1 = .ok (.iload_n 2, 1) := by decide +kernel
theorem dX12_measureRows_2 : decode cX12_measureRows 2 = .ok (.invokevirtual 529, 3) := by decide +kernel
theorem dX12_measureRows_5 : decode cX12_measureRows 5 = .ok (.istore 4, 2) := by decide +kernel
theorem dX12_measureRows_7 : decode cX12_measureRows 7 = .ok (.iconst 0, 1) := by decide +kernel
theorem dX12_measureRows_8 : decode cX12_measureRows 8 = .ok (.istore 5, 2) := by decide +kernel
theorem dX12_measureRows_10 : decode cX12_measureRows 10 = .ok (.iload 5, 2) := by decide +kernel
theorem dX12_measureRows_12 : decode cX12_measureRows 12 = .ok (.aload_n 0, 1) := by decide +kernel
theorem dX12_measureRows_13 : decode cX12_measureRows 13 = .ok (.getfield 788, 3) := by decide +kernel
theorem dX12_measureRows_16 : decode cX12_measureRows 16 = .ok (.if_icmp .ge 178, 3) := by decide +kernel
theorem dX12_measureRows_19 : decode cX12_measureRows 19 = .ok (.aload_n 0, 1) := by decide +kernel
theorem dX12_measureRows_20 : decode cX12_measureRows 20 = .ok (.aload_n 0, 1) := by decide +kernel
theorem dX12_measureRows_21 : decode cX12_measureRows 21 = .ok (.getfield 260, 3) := by decide +kernel
theorem dX12_measureRows_24 : decode cX12_measureRows 24 = .ok (.iload 5, 2) := by decide +kernel
theorem dX12_measureRows_26 : decode cX12_measureRows 26 = .ok (.iaload, 1) := by decide +kernel
theorem dX12_measureRows_27 : decode cX12_measureRows 27 = .ok (.iload_n 1, 1) := by decide +kernel
theorem dX12_measureRows_28 : decode cX12_measureRows 28 = .ok (.invokevirtual 806, 3) := by decide +kernel
theorem dX12_measureRows_31 : decode cX12_measureRows 31 = .ok (.iconst 0, 1) := by decide +kernel
theorem dX12_measureRows_32 : decode cX12_measureRows 32 = .ok (.istore 6, 2) := by decide +kernel
theorem dX12_measureRows_34 : decode cX12_measureRows 34 = .ok (.iload 6, 2) := by decide +kernel
theorem dX12_measureRows_36 : decode cX12_measureRows 36 = .ok (.aload_n 0, 1) := by decide +kernel
theorem dX12_measureRows_37 : decode cX12_measureRows 37 = .ok (.getfield 791, 3) := by decide +kernel
theorem dX12_measureRows_40 : decode cX12_measureRows 40 = .ok (.if_icmp .ge 148, 3) := by decide +kernel
theorem dX12_measureRows_43 : decode cX12_measureRows 43 = .ok (.aload_n 0, 1) := by decide +kernel
theorem dX12_measureRows_44 : decode cX12_measureRows 44 = .ok (.getfield 480, 3) := by decide +kernel
theorem dX12_measureRows_47 : decode cX12_measureRows 47 = .ok (.ifCond .ne 141, 3) := by decide +kernel
theorem dX12_measureRows_50 : decode cX12_measureRows 50 = .ok (.aload_n 0, 1) := by decide +kernel
theorem dX12_measureRows_51 : decode cX12_measureRows 51 = .ok (.iconst 0, 1) := by decide +kernel
theorem dX12_measureRows_52 : decode cX12_measureRows 52 = .ok (.putfield 727, 3) := by decide +kernel
theorem dX12_measureRows_55 : decode cX12_measureRows 55 = .ok (.iconst 0, 1) := by decide +kernel
theorem dX12_measureRows_56 : decode cX12_measureRows 56 = .ok (.istore 7, 2) := by decide +kernel
theorem dX12_measureRows_58 : decode cX12_measureRows 58 = .ok (.iload 7, 2) := by decide +kernel
theorem dX12_measureRows_60 : decode cX12_measureRows 60 = .ok (.aload_n 0, 1) := by decide +kernel
theorem dX12_measureRows_61 : decode cX12_measureRows 61 = .ok (.getfield 266, 3) := by decide +kernel
theorem dX12_measureRows_64 : decode cX12_measureRows 64 = .ok (.iload 5, 2) := by decide +kernel
theorem dX12_measureRows_66 : decode cX12_measureRows 66 = .ok (.iaload, 1) := by decide +kernel
theorem dX12_measureRows_67 : decode cX12_measureRows 67 = .ok (.if_icmp .ge 30, 3) := by decide +kernel
theorem dX12_measureRows_70 : decode cX12_measureRows 70 = .ok (.aload_n 0, 1) := by decide +kernel
theorem dX12_measureRows_71 : decode cX12_measureRows 71 = .ok (.aload_n 0, 1) := by decide +kernel
theorem dX12_measureRows_72 : decode cX12_measureRows 72 = .ok (.aload_n 0, 1) := by decide +kernel
theorem dX12_measureRows_73 : decode cX12_measureRows 73 = .ok (.getfield 263, 3) := by decide +kernel
theorem dX12_measureRows_76 : decode cX12_measureRows 76 = .ok (.bipush 64, 2) := by decide +kernel
theorem dX12_measureRows_78 : decode cX12_measureRows 78 = .ok (.iload 5, 2) := by decide +kernel
theorem dX12_measureRows_80 : decode cX12_measureRows 80 = .ok (.imul, 1) := by decide +kernel
theorem dX12_measureRows_81 : decode cX12_measureRows 81 = .ok (.iload 7, 2) := by decide +kernel
theorem dX12_measureRows_83 : decode cX12_measureRows 83 = .ok (.iadd, 1) := by decide +kernel
theorem dX12_measureRows_84 : decode cX12_measureRows 84 = .ok (.iaload, 1) := by decide +kernel
theorem dX12_measureRows_85 : decode cX12_measureRows 85 = .ok (.invokevirtual 659, 3) := by decide +kernel
theorem dX12_measureRows_88 : decode cX12_measureRows 88 = .ok (.invokevirtual 739, 3) := by decide +kernel
theorem dX12_measureRows_91 : decode cX12_measureRows 91 = .ok (.iinc 7 1, 3) := by decide +kernel
theorem dX12_measureRows_94 : decode cX12_measureRows 94 = .ok (.goto (-36), 3) := by decide +kernel
theorem dX12_measureRows_97 : decode cX12_measureRows 97 = .ok (.aload_n 0, 1) := by decide +kernel
theorem dX12_measureRows_98 : decode cX12_measureRows 98 = .ok (.iload 4, 2) := by decide +kernel
theorem dX12_measureRows_100 : decode cX12_measureRows 100 = .ok (.putfield 495, 3) := by decide +kernel
theorem dX12_measureRows_103 : decode cX12_measureRows 103 = .ok (.iconst 0, 1) := by decide +kernel
theorem dX12_measureRows_104 : decode cX12_measureRows 104 = .ok (.istore 7, 2) := by decide +kernel
theorem dX12_measureRows_106 : decode cX12_measureRows 106 = .ok (.iload 7, 2) := by decide +kernel
theorem dX12_measureRows_108 : decode cX12_measureRows 108 = .ok (.iload 4, 2) := by decide +kernel
theorem dX12_measureRows_110 : decode cX12_measureRows 110 = .ok (.if_icmp .ge 45, 3) := by decide +kernel
theorem dX12_measureRows_113 : decode cX12_measureRows 113 = .ok (.aload_n 0, 1) := by decide +kernel
theorem dX12_measureRows_114 : decode cX12_measureRows 114 = .ok (.getfield 157, 3) := by decide +kernel
theorem dX12_measureRows_117 : decode cX12_measureRows 117 = .ok (.iload 7, 2) := by decide +kernel
theorem dX12_measureRows_119 : decode cX12_measureRows 119 = .ok (.aload_n 0, 1) := by decide +kernel
theorem dX12_measureRows_120 : decode cX12_measureRows 120 = .ok (.iload_n 2, 1) := by decide +kernel
theorem dX12_measureRows_121 : decode cX12_measureRows 121 = .ok (.iload 7, 2) := by decide +kernel
theorem dX12_measureRows_123 : decode cX12_measureRows 123 = .ok (.invokevirtual 471, 3) := by decide +kernel
theorem dX12_measureRows_126 : decode cX12_measureRows 126 = .ok (.iastore, 1) := by decide +kernel
theorem dX12_measureRows_127 : decode cX12_measureRows 127 = .ok (.aload_n 0, 1) := by decide +kernel
theorem dX12_measureRows_128 : decode cX12_measureRows 128 = .ok (.getfield 160, 3) := by decide +kernel
theorem dX12_measureRows_131 : decode cX12_measureRows 131 = .ok (.iload 7, 2) := by decide +kernel
theorem dX12_measureRows_133 : decode cX12_measureRows 133 = .ok (.aload_n 0, 1) := by decide +kernel
theorem dX12_measureRows_134 : decode cX12_measureRows 134 = .ok (.aload_n 0, 1) := by decide +kernel
theorem dX12_measureRows_135 : decode cX12_measureRows 135 = .ok (.getfield 278, 3) := by decide +kernel
theorem dX12_measureRows_138 : decode cX12_measureRows 138 = .ok (.iload 6, 2) := by decide +kernel
theorem dX12_measureRows_140 : decode cX12_measureRows 140 = .ok (.iaload, 1) := by decide +kernel
theorem dX12_measureRows_141 : decode cX12_measureRows 141 = .ok (.iload 7, 2) := by decide +kernel
theorem dX12_measureRows_143 : decode cX12_measureRows 143 = .ok (.iconst 1, 1) := by decide +kernel
theorem dX12_measureRows_144 : decode cX12_measureRows 144 = .ok (.iadd, 1) := by decide +kernel
theorem dX12_measureRows_145 : decode cX12_measureRows 145 = .ok (.invokevirtual 592, 3) := by decide +kernel
theorem dX12_measureRows_148 : decode cX12_measureRows 148 = .ok (.iastore, 1) := by decide +kernel
theorem dX12_measureRows_149 : decode cX12_measureRows 149 = .ok (.iinc 7 1, 3) := by decide +kernel
theorem dX12_measureRows_152 : decode cX12_measureRows 152 = .ok (.goto (-46), 3) := by decide +kernel
theorem dX12_measureRows_155 : decode cX12_measureRows 155 = .ok (.aload_n 0, 1) := by decide +kernel
theorem dX12_measureRows_156 : decode cX12_measureRows 156 = .ok (.iload_n 3, 1) := by decide +kernel
theorem dX12_measureRows_157 : decode cX12_measureRows 157 = .ok (.invokevirtual 712, 3) := by decide +kernel
theorem dX12_measureRows_160 : decode cX12_measureRows 160 = .ok (.istore 7, 2) := by decide +kernel
theorem dX12_measureRows_162 : decode cX12_measureRows 162 = .ok (.aload_n 0, 1) := by decide +kernel
theorem dX12_measureRows_163 : decode cX12_measureRows 163 = .ok (.aload_n 0, 1) := by decide +kernel
theorem dX12_measureRows_164 : decode cX12_measureRows 164 = .ok (.bipush 9, 2) := by decide +kernel
theorem dX12_measureRows_166 : decode cX12_measureRows 166 = .ok (.iload 7, 2) := by decide +kernel
theorem dX12_measureRows_168 : decode cX12_measureRows 168 = .ok (.iload_n 3, 1) := by decide +kernel
theorem dX12_measureRows_169 : decode cX12_measureRows 169 = .ok (.invokevirtual 693, 3) := by decide +kernel
theorem dX12_measureRows_172 : decode cX12_measureRows 172 = .ok (.invokevirtual 739, 3) := by decide +kernel
theorem dX12_measureRows_175 : decode cX12_measureRows 175 = .ok (.aload_n 0, 1) := by decide +kernel
theorem dX12_measureRows_176 : decode cX12_measureRows 176 = .ok (.iconst 0, 1) := by decide +kernel
theorem dX12_measureRows_177 : decode cX12_measureRows 177 = .ok (.invokevirtual 742, 3) := by decide +kernel
theorem dX12_measureRows_180 : decode cX12_measureRows 180 = .ok (.istore 8, 2) := by decide +kernel
theorem dX12_measureRows_182 : decode cX12_measureRows 182 = .ok (.iinc 6 1, 3) := by decide +kernel
theorem dX12_measureRows_185 : decode cX12_measureRows 185 = .ok (.goto (-151), 3) := by decide +kernel
theorem dX12_measureRows_188 : decode cX12_measureRows 188 = .ok (.iinc 5 1, 3) := by decide +kernel
theorem dX12_measureRows_191 : decode cX12_measureRows 191 = .ok (.goto (-181), 3) := by decide +kernel
theorem dX12_measureRows_194 : decode cX12_measureRows 194 = .ok (.return_, 1) := by decide +kernel

section
variable {p : Program} {l : Launch} {e : Env} {R : Room} {s : State} {m : MethodId} {args : Array Value} {below : List Frame} {meth : Method} {c : Code} {H : Heap} {locs : List Loc} {Qf : State → Prop}
variable {ls : Array Slot} {D : va_G} {ca : Nat → ClassId} {A : Nat → Prop} {h0 : Nat} {ad : Nat → Nat} {H0 : Heap} {u : iST}
def w_measureRows_106b (R10 : Int → Int → Int → Int → Int → iST → Prop) (R34 : Int → Int → Int → Int → Int → Int → iST → Prop) (R106 : Int → Int → Int → Int → Int → Int → Int → iST → Prop) (Q : iST → Prop) (x1 : Int) (x2 : Int) (x3 : Int) (x4 : Int) (x5 : Int) (x6 : Int) (x7 : Int) (u : iST) : Prop :=
  br (x4 ≤ x7) (
    w_instance x3 (fun v10 u => 
    w_made2 9 v10 x3 (fun v11 u => 
    w_put v11 (fun u => 
    w_row 0 (fun v13 u => 
    ov (x6 + 1) (
    R34 x1 x2 x3 x4 x5 (x6 + 1) u)) u) u) u) u) (
    w_nth x2 x7 (fun v15 u => 
    bd x7 400 (sw (iA u 72 x7 v15) (fun u => 
    bd x6 130 (rd (u.2.1 130 x6) (fun v16 => 
    ov (x7 + 1) (
    w_term v16 (x7 + 1) (fun v18 u => 
    bd x7 400 (sw (iA u 73 x7 v18) (fun u => 
    ov (x7 + 1) (
    R106 x1 x2 x3 x4 x5 x6 (x7 + 1) u)))) u)))))) u)
def w_measureRows_106 (R10 : Int → Int → Int → Int → Int → iST → Prop) (R34 : Int → Int → Int → Int → Int → Int → iST → Prop) (Q : iST → Prop) (x1 : Int) (x2 : Int) (x3 : Int) (x4 : Int) (x5 : Int) (x6 : Int) (x7 : Int) (u : iST) : Prop := ∀ R106 : Int → Int → Int → Int → Int → Int → Int → iST → Prop, (∀ (x1 : Int) (x2 : Int) (x3 : Int) (x4 : Int) (x5 : Int) (x6 : Int) (x7 : Int) (u : iST), w_measureRows_106b R10 R34 R106 Q x1 x2 x3 x4 x5 x6 x7 u → R106 x1 x2 x3 x4 x5 x6 x7 u) → R106 x1 x2 x3 x4 x5 x6 x7 u
set_option maxRecDepth 20000 in
set_option maxHeartbeats 4000000 in
theorem b_measureRows_106 (X : kX p m c cX12_measureRows 9 s args D ca) (hRf : 6 ≤ R.frames) (hRl : 137 ≤ R.locals) {Q : iST → Prop} (hret : ∀ (u : iST) (H : Heap) (locs : List Loc) (ls : Array Slot) (pc : Nat), Q u → kW D ca A h0 ad H0 H locs u → decode cX12_measureRows pc = .ok (.return_, 1) → W p l e R s m args below meth c H locs 0 0 Qf (F0 m pc ls [])) {R10 : Int → Int → Int → Int → Int → iST → Prop} (hR10 : ∀ (x1 : Int) (x2 : Int) (x3 : Int) (x4 : Int) (x5 : Int) (u : iST) (H : Heap) (locs : List Loc) (ls : Array Slot), inR x1 → inR x2 → inR x3 → inR x4 → inR x5 → kW D ca A h0 ad H0 H locs u → lv_has ls 9 [(0, .ref h0), (1, .int (jI x1)), (2, .int (jI x2)), (3, .int (jI x3)), (4, .int (jI x4)), (5, .int (jI x5))] → R10 x1 x2 x3 x4 x5 u → W p l e R s m args below meth c H locs 0 0 Qf (F0 m 10 ls [])) {R34 : Int → Int → Int → Int → Int → Int → iST → Prop} (hR34 : ∀ (x1 : Int) (x2 : Int) (x3 : Int) (x4 : Int) (x5 : Int) (x6 : Int) (u : iST) (H : Heap) (locs : List Loc) (ls : Array Slot), inR x1 → inR x2 → inR x3 → inR x4 → inR x5 → inR x6 → kW D ca A h0 ad H0 H locs u → lv_has ls 9 [(0, .ref h0), (1, .int (jI x1)), (2, .int (jI x2)), (3, .int (jI x3)), (4, .int (jI x4)), (5, .int (jI x5)), (6, .int (jI x6))] → R34 x1 x2 x3 x4 x5 x6 u → W p l e R s m args below meth c H locs 0 0 Qf (F0 m 34 ls [])) {x1 x2 x3 x4 x5 x6 x7 : Int} (rx1 : inR x1) (rx2 : inR x2) (rx3 : inR x3) (rx4 : inR x4) (rx5 : inR x5) (rx6 : inR x6) (rx7 : inR x7) (hw : kW D ca A h0 ad H0 H locs u) (hl : lv_has ls 9 [(0, .ref h0), (1, .int (jI x1)), (2, .int (jI x2)), (3, .int (jI x3)), (4, .int (jI x4)), (5, .int (jI x5)), (6, .int (jI x6)), (7, .int (jI x7))]) (h : w_measureRows_106 R10 R34 Q x1 x2 x3 x4 x5 x6 x7 u) : W p l e R s m args below meth c H locs 0 0 Qf (F0 m 106 ls []) := by
  refine h (fun x1 x2 x3 x4 x5 x6 x7 u => ∀ (H : Heap) (locs : List Loc) (ls : Array Slot), inR x1 → inR x2 → inR x3 → inR x4 → inR x5 → inR x6 → inR x7 → kW D ca A h0 ad H0 H locs u → lv_has ls 9 [(0, .ref h0), (1, .int (jI x1)), (2, .int (jI x2)), (3, .int (jI x3)), (4, .int (jI x4)), (5, .int (jI x5)), (6, .int (jI x6)), (7, .int (jI x7))] → W p l e R s m args below meth c H locs 0 0 Qf (F0 m 106 ls [])) ?_ H locs ls rx1 rx2 rx3 rx4 rx5 rx6 rx7 hw hl
  clear h hl hw rx1 rx2 rx3 rx4 rx5 rx6 rx7
  intro x1 x2 x3 x4 x5 x6 x7 u h H locs ls rx1 rx2 rx3 rx4 rx5 rx6 rx7 hw hl
  have hR106 : ∀ (x1 : Int) (x2 : Int) (x3 : Int) (x4 : Int) (x5 : Int) (x6 : Int) (x7 : Int) (u : iST) (H : Heap) (locs : List Loc) (ls : Array Slot), inR x1 → inR x2 → inR x3 → inR x4 → inR x5 → inR x6 → inR x7 → kW D ca A h0 ad H0 H locs u → lv_has ls 9 [(0, .ref h0), (1, .int (jI x1)), (2, .int (jI x2)), (3, .int (jI x3)), (4, .int (jI x4)), (5, .int (jI x5)), (6, .int (jI x6)), (7, .int (jI x7))] → (fun (x1 : Int) (x2 : Int) (x3 : Int) (x4 : Int) (x5 : Int) (x6 : Int) (x7 : Int) u => ∀ (H : Heap) (locs : List Loc) (ls : Array Slot), inR x1 → inR x2 → inR x3 → inR x4 → inR x5 → inR x6 → inR x7 → kW D ca A h0 ad H0 H locs u → lv_has ls 9 [(0, .ref h0), (1, .int (jI x1)), (2, .int (jI x2)), (3, .int (jI x3)), (4, .int (jI x4)), (5, .int (jI x5)), (6, .int (jI x6)), (7, .int (jI x7))] → W p l e R s m args below meth c H locs 0 0 Qf (F0 m 106 ls [])) x1 x2 x3 x4 x5 x6 x7 u → W p l e R s m args below meth c H locs 0 0 Qf (F0 m 106 ls []) := fun x1 x2 x3 x4 x5 x6 x7 u H locs ls rx1 rx2 rx3 rx4 rx5 rx6 rx7 hw hl h => h H locs ls rx1 rx2 rx3 rx4 rx5 rx6 rx7 hw hl
  have hx := X.1.1
  have hb := X.1.2.1
  unfold w_measureRows_106b at h
  refine lv_iload hx hb dX12_measureRows_106 (lv_at hl 7 rfl) ?_
  refine lv_iload hx hb dX12_measureRows_108 (lv_at hl 4 rfl) ?_
  refine k_icmp_ge hx hb rx7 rx4 dX12_measureRows_110 (tgt := 155) rfl h (fun h => ?_) (fun h => ?_)
  · refine lv_aload_n hx hb dX12_measureRows_155 rfl (lv_at hl 0 rfl) ?_
    refine lv_iload_n hx hb dX12_measureRows_156 rfl (lv_at hl 3 rfl) ?_
    refine kcI (n := 1) (c_instance rx3 h) G_instance E_instance X hw (Nat.le_trans (Nat.le_of_ble_eq_true rfl) hRf) (Nat.le_trans (Nat.le_of_ble_eq_true rfl) hRl) rfl hl.1 (Nat.le_of_ble_eq_true rfl) rfl dX12_measureRows_157 (fun v10 u H locs rv10 h hw => ?_)
    refine lv_istore hx hb dX12_measureRows_160 hl (by decide) rfl (fun ls hl => ?_)
    have hl : lv_has ls 9 [(7, .int (jI v10)), (0, .ref (h0)), (1, .int (jI x1)), (2, .int (jI x2)), (3, .int (jI x3)), (4, .int (jI x4)), (5, .int (jI x5)), (6, .int (jI x6))] := hl
    refine lv_aload_n hx hb dX12_measureRows_162 rfl (lv_at hl 1 rfl) ?_
    refine lv_aload_n hx hb dX12_measureRows_163 rfl (lv_at hl 1 rfl) ?_
    refine lv_bipush hx hb dX12_measureRows_164 (v := jI 9) rfl ?_
    refine lv_iload hx hb dX12_measureRows_166 (lv_at hl 0 rfl) ?_
    refine lv_iload_n hx hb dX12_measureRows_168 rfl (lv_at hl 4 rfl) ?_
    refine kcI (n := 3) (c_made2 (by decide) rv10 rx3 h) G_made2 E_made2 X hw (Nat.le_trans (Nat.le_of_ble_eq_true rfl) hRf) (Nat.le_trans (Nat.le_of_ble_eq_true rfl) hRl) rfl hl.1 (Nat.le_of_ble_eq_true rfl) rfl dX12_measureRows_169 (fun v11 u H locs rv11 h hw => ?_)
    refine kcV (n := 1) (c_put rv11 h) G_put E_put X hw (Nat.le_trans (Nat.le_of_ble_eq_true rfl) hRf) (Nat.le_trans (Nat.le_of_ble_eq_true rfl) hRl) rfl hl.1 (Nat.le_of_ble_eq_true rfl) rfl dX12_measureRows_172 (fun u H locs h hw => ?_)
    refine lv_aload_n hx hb dX12_measureRows_175 rfl (lv_at hl 1 rfl) ?_
    refine lv_iconst hx hb dX12_measureRows_176 (v := jI 0) rfl ?_
    refine kcI (n := 1) (c_row (by decide) h) G_row E_row X hw (Nat.le_trans (Nat.le_of_ble_eq_true rfl) hRf) (Nat.le_trans (Nat.le_of_ble_eq_true rfl) hRl) rfl hl.1 (Nat.le_of_ble_eq_true rfl) rfl dX12_measureRows_177 (fun v13 u H locs rv13 h hw => ?_)
    refine lv_istore hx hb dX12_measureRows_180 hl (by decide) rfl (fun ls hl => ?_)
    have hl : lv_has ls 9 [(8, .int (jI v13)), (7, .int (jI v10)), (0, .ref (h0)), (1, .int (jI x1)), (2, .int (jI x2)), (3, .int (jI x3)), (4, .int (jI x4)), (5, .int (jI x5)), (6, .int (jI x6))] := hl
    refine k_iinc (k := 8) hx hb dX12_measureRows_182 hl rfl (by decide) rfl h (fun ls r14 h hl => ?_)
    have hl : lv_has ls 9 [(6, .int (jI (x6 + 1))), (8, .int (jI v13)), (7, .int (jI v10)), (0, .ref (h0)), (1, .int (jI x1)), (2, .int (jI x2)), (3, .int (jI x3)), (4, .int (jI x4)), (5, .int (jI x5))] := hl
    refine lv_goto hx hb dX12_measureRows_185 (tgt := 34) rfl ?_
    exact hR34 _ _ _ _ _ _ _ H locs ls rx1 rx2 rx3 rx4 rx5 r14 hw (lv_sub hl [3, 4, 5, 6, 7, 8, 0] rfl) h
  · refine lv_aload_n hx hb dX12_measureRows_113 rfl (lv_at hl 0 rfl) ?_
    refine gA 72 157 (by decide) L_72 (fun _ _ => mF_72) rfl X hw dX12_measureRows_114 ?_
    refine lv_iload hx hb dX12_measureRows_117 (lv_at hl 7 rfl) ?_
    refine lv_aload_n hx hb dX12_measureRows_119 rfl (lv_at hl 0 rfl) ?_
    refine lv_iload_n hx hb dX12_measureRows_120 rfl (lv_at hl 2 rfl) ?_
    refine lv_iload hx hb dX12_measureRows_121 (lv_at hl 7 rfl) ?_
    refine kcI (n := 2) (c_nth rx2 rx7 h) G_nth E_nth X hw (Nat.le_trans (Nat.le_of_ble_eq_true rfl) hRf) (Nat.le_trans (Nat.le_of_ble_eq_true rfl) hRl) rfl hl.1 (Nat.le_of_ble_eq_true rfl) rfl dX12_measureRows_123 (fun v15 u H locs rv15 h hw => ?_)
    refine aS 72 45 44 400 (fun _ _ _ _ => mG_72) (fun _ => rfl) (fun _ _ _ _ _ _ => mSA_72) (by decide) X hw rx7 rv15 dX12_measureRows_126 rfl h (fun H locs u hw h => ?_)
    refine lv_aload_n hx hb dX12_measureRows_127 rfl (lv_at hl 0 rfl) ?_
    refine gA 73 160 (by decide) L_73 (fun _ _ => mF_73) rfl X hw dX12_measureRows_128 ?_
    refine lv_iload hx hb dX12_measureRows_131 (lv_at hl 7 rfl) ?_
    refine lv_aload_n hx hb dX12_measureRows_133 rfl (lv_at hl 0 rfl) ?_
    refine lv_aload_n hx hb dX12_measureRows_134 rfl (lv_at hl 0 rfl) ?_
    refine gA 130 278 (by decide) L_130 (fun _ _ => mF_130) rfl X hw dX12_measureRows_135 ?_
    refine lv_iload hx hb dX12_measureRows_138 (lv_at hl 6 rfl) ?_
    refine aL 130 85 84 130 (fun _ _ _ _ => mG_130) (fun _ => rfl) X hw rx6 dX12_measureRows_140 rfl h (fun v16 rv16 h => ?_)
    refine lv_iload hx hb dX12_measureRows_141 (lv_at hl 7 rfl) ?_
    refine lv_iconst hx hb dX12_measureRows_143 (v := jI 1) rfl ?_
    refine k_iadd hx hb dX12_measureRows_144 h (fun r17 h => ?_)
    refine kcI (n := 2) (c_term rv16 r17 h) G_term E_term X hw (Nat.le_trans (Nat.le_of_ble_eq_true rfl) hRf) (Nat.le_trans (Nat.le_of_ble_eq_true rfl) hRl) rfl hl.1 (Nat.le_of_ble_eq_true rfl) rfl dX12_measureRows_145 (fun v18 u H locs rv18 h hw => ?_)
    refine aS 73 46 45 400 (fun _ _ _ _ => mG_73) (fun _ => rfl) (fun _ _ _ _ _ _ => mSA_73) (by decide) X hw rx7 rv18 dX12_measureRows_148 rfl h (fun H locs u hw h => ?_)
    refine k_iinc (k := 7) hx hb dX12_measureRows_149 hl rfl (by decide) rfl h (fun ls r19 h hl => ?_)
    have hl : lv_has ls 9 [(7, .int (jI (x7 + 1))), (0, .ref (h0)), (1, .int (jI x1)), (2, .int (jI x2)), (3, .int (jI x3)), (4, .int (jI x4)), (5, .int (jI x5)), (6, .int (jI x6))] := hl
    refine lv_goto hx hb dX12_measureRows_152 (tgt := 106) rfl ?_
    exact hR106 _ _ _ _ _ _ _ _ H locs ls rx1 rx2 rx3 rx4 rx5 rx6 r19 hw (lv_sub hl [1, 2, 3, 4, 5, 6, 7, 0] rfl) h

def w_measureRows_58b (R10 : Int → Int → Int → Int → Int → iST → Prop) (R34 : Int → Int → Int → Int → Int → Int → iST → Prop) (R58 : Int → Int → Int → Int → Int → Int → Int → iST → Prop) (Q : iST → Prop) (x1 : Int) (x2 : Int) (x3 : Int) (x4 : Int) (x5 : Int) (x6 : Int) (x7 : Int) (u : iST) : Prop :=
  bd x5 128 (rd (u.2.1 125 x5) (fun v9 => 
  br (v9 ≤ x7) (
    sw (iI u 74 x4) (fun u => 
    w_measureRows_106 R10 R34 Q x1 x2 x3 x4 x5 x6 0 u)) (
    ov (64 * x5) (
    ov ((64 * x5) + x7) (
    bd ((64 * x5) + x7) 8192 (rd (u.2.1 124 ((64 * x5) + x7)) (fun v22 => 
    w_notOf v22 (fun v23 u => 
    w_put v23 (fun u => 
    ov (x7 + 1) (
    R58 x1 x2 x3 x4 x5 x6 (x7 + 1) u)) u) u)))))))
def w_measureRows_58 (R10 : Int → Int → Int → Int → Int → iST → Prop) (R34 : Int → Int → Int → Int → Int → Int → iST → Prop) (Q : iST → Prop) (x1 : Int) (x2 : Int) (x3 : Int) (x4 : Int) (x5 : Int) (x6 : Int) (x7 : Int) (u : iST) : Prop := ∀ R58 : Int → Int → Int → Int → Int → Int → Int → iST → Prop, (∀ (x1 : Int) (x2 : Int) (x3 : Int) (x4 : Int) (x5 : Int) (x6 : Int) (x7 : Int) (u : iST), w_measureRows_58b R10 R34 R58 Q x1 x2 x3 x4 x5 x6 x7 u → R58 x1 x2 x3 x4 x5 x6 x7 u) → R58 x1 x2 x3 x4 x5 x6 x7 u
set_option maxRecDepth 20000 in
set_option maxHeartbeats 4000000 in
theorem b_measureRows_58 (X : kX p m c cX12_measureRows 9 s args D ca) (hRf : 6 ≤ R.frames) (hRl : 137 ≤ R.locals) {Q : iST → Prop} (hret : ∀ (u : iST) (H : Heap) (locs : List Loc) (ls : Array Slot) (pc : Nat), Q u → kW D ca A h0 ad H0 H locs u → decode cX12_measureRows pc = .ok (.return_, 1) → W p l e R s m args below meth c H locs 0 0 Qf (F0 m pc ls [])) {R10 : Int → Int → Int → Int → Int → iST → Prop} (hR10 : ∀ (x1 : Int) (x2 : Int) (x3 : Int) (x4 : Int) (x5 : Int) (u : iST) (H : Heap) (locs : List Loc) (ls : Array Slot), inR x1 → inR x2 → inR x3 → inR x4 → inR x5 → kW D ca A h0 ad H0 H locs u → lv_has ls 9 [(0, .ref h0), (1, .int (jI x1)), (2, .int (jI x2)), (3, .int (jI x3)), (4, .int (jI x4)), (5, .int (jI x5))] → R10 x1 x2 x3 x4 x5 u → W p l e R s m args below meth c H locs 0 0 Qf (F0 m 10 ls [])) {R34 : Int → Int → Int → Int → Int → Int → iST → Prop} (hR34 : ∀ (x1 : Int) (x2 : Int) (x3 : Int) (x4 : Int) (x5 : Int) (x6 : Int) (u : iST) (H : Heap) (locs : List Loc) (ls : Array Slot), inR x1 → inR x2 → inR x3 → inR x4 → inR x5 → inR x6 → kW D ca A h0 ad H0 H locs u → lv_has ls 9 [(0, .ref h0), (1, .int (jI x1)), (2, .int (jI x2)), (3, .int (jI x3)), (4, .int (jI x4)), (5, .int (jI x5)), (6, .int (jI x6))] → R34 x1 x2 x3 x4 x5 x6 u → W p l e R s m args below meth c H locs 0 0 Qf (F0 m 34 ls [])) {x1 x2 x3 x4 x5 x6 x7 : Int} (rx1 : inR x1) (rx2 : inR x2) (rx3 : inR x3) (rx4 : inR x4) (rx5 : inR x5) (rx6 : inR x6) (rx7 : inR x7) (hw : kW D ca A h0 ad H0 H locs u) (hl : lv_has ls 9 [(0, .ref h0), (1, .int (jI x1)), (2, .int (jI x2)), (3, .int (jI x3)), (4, .int (jI x4)), (5, .int (jI x5)), (6, .int (jI x6)), (7, .int (jI x7))]) (h : w_measureRows_58 R10 R34 Q x1 x2 x3 x4 x5 x6 x7 u) : W p l e R s m args below meth c H locs 0 0 Qf (F0 m 58 ls []) := by
  refine h (fun x1 x2 x3 x4 x5 x6 x7 u => ∀ (H : Heap) (locs : List Loc) (ls : Array Slot), inR x1 → inR x2 → inR x3 → inR x4 → inR x5 → inR x6 → inR x7 → kW D ca A h0 ad H0 H locs u → lv_has ls 9 [(0, .ref h0), (1, .int (jI x1)), (2, .int (jI x2)), (3, .int (jI x3)), (4, .int (jI x4)), (5, .int (jI x5)), (6, .int (jI x6)), (7, .int (jI x7))] → W p l e R s m args below meth c H locs 0 0 Qf (F0 m 58 ls [])) ?_ H locs ls rx1 rx2 rx3 rx4 rx5 rx6 rx7 hw hl
  clear h hl hw rx1 rx2 rx3 rx4 rx5 rx6 rx7
  intro x1 x2 x3 x4 x5 x6 x7 u h H locs ls rx1 rx2 rx3 rx4 rx5 rx6 rx7 hw hl
  have hR58 : ∀ (x1 : Int) (x2 : Int) (x3 : Int) (x4 : Int) (x5 : Int) (x6 : Int) (x7 : Int) (u : iST) (H : Heap) (locs : List Loc) (ls : Array Slot), inR x1 → inR x2 → inR x3 → inR x4 → inR x5 → inR x6 → inR x7 → kW D ca A h0 ad H0 H locs u → lv_has ls 9 [(0, .ref h0), (1, .int (jI x1)), (2, .int (jI x2)), (3, .int (jI x3)), (4, .int (jI x4)), (5, .int (jI x5)), (6, .int (jI x6)), (7, .int (jI x7))] → (fun (x1 : Int) (x2 : Int) (x3 : Int) (x4 : Int) (x5 : Int) (x6 : Int) (x7 : Int) u => ∀ (H : Heap) (locs : List Loc) (ls : Array Slot), inR x1 → inR x2 → inR x3 → inR x4 → inR x5 → inR x6 → inR x7 → kW D ca A h0 ad H0 H locs u → lv_has ls 9 [(0, .ref h0), (1, .int (jI x1)), (2, .int (jI x2)), (3, .int (jI x3)), (4, .int (jI x4)), (5, .int (jI x5)), (6, .int (jI x6)), (7, .int (jI x7))] → W p l e R s m args below meth c H locs 0 0 Qf (F0 m 58 ls [])) x1 x2 x3 x4 x5 x6 x7 u → W p l e R s m args below meth c H locs 0 0 Qf (F0 m 58 ls []) := fun x1 x2 x3 x4 x5 x6 x7 u H locs ls rx1 rx2 rx3 rx4 rx5 rx6 rx7 hw hl h => h H locs ls rx1 rx2 rx3 rx4 rx5 rx6 rx7 hw hl
  have hx := X.1.1
  have hb := X.1.2.1
  unfold w_measureRows_58b at h
  refine lv_iload hx hb dX12_measureRows_58 (lv_at hl 7 rfl) ?_
  refine lv_aload_n hx hb dX12_measureRows_60 rfl (lv_at hl 0 rfl) ?_
  refine gA 125 266 (by decide) L_125 (fun _ _ => mF_125) rfl X hw dX12_measureRows_61 ?_
  refine lv_iload hx hb dX12_measureRows_64 (lv_at hl 5 rfl) ?_
  refine aL 125 81 80 128 (fun _ _ _ _ => mG_125) (fun _ => rfl) X hw rx5 dX12_measureRows_66 rfl h (fun v9 rv9 h => ?_)
  refine k_icmp_ge hx hb rx7 rv9 dX12_measureRows_67 (tgt := 97) rfl h (fun h => ?_) (fun h => ?_)
  · refine lv_aload_n hx hb dX12_measureRows_97 rfl (lv_at hl 0 rfl) ?_
    refine lv_iload hx hb dX12_measureRows_98 (lv_at hl 4 rfl) ?_
    refine pS 74 495 (by decide) L_74 rfl rfl rfl (fun _ _ _ _ _ => mSI_74) (by decide) X hw rx4 dX12_measureRows_100 h (fun H locs u hw h => ?_)
    refine lv_iconst hx hb dX12_measureRows_103 (v := jI 0) rfl ?_
    refine lv_istore hx hb dX12_measureRows_104 hl (by decide) rfl (fun ls hl => ?_)
    have hl : lv_has ls 9 [(7, .int (jI 0)), (0, .ref (h0)), (1, .int (jI x1)), (2, .int (jI x2)), (3, .int (jI x3)), (4, .int (jI x4)), (5, .int (jI x5)), (6, .int (jI x6))] := hl
    exact b_measureRows_106 X hRf hRl hret hR10 hR34 rx1 rx2 rx3 rx4 rx5 rx6 (by decide) hw (lv_sub hl [1, 2, 3, 4, 5, 6, 7, 0] rfl) h
  · refine lv_aload_n hx hb dX12_measureRows_70 rfl (lv_at hl 0 rfl) ?_
    refine lv_aload_n hx hb dX12_measureRows_71 rfl (lv_at hl 0 rfl) ?_
    refine lv_aload_n hx hb dX12_measureRows_72 rfl (lv_at hl 0 rfl) ?_
    refine gA 124 263 (by decide) L_124 (fun _ _ => mF_124) rfl X hw dX12_measureRows_73 ?_
    refine lv_bipush hx hb dX12_measureRows_76 (v := jI 64) rfl ?_
    refine lv_iload hx hb dX12_measureRows_78 (lv_at hl 5 rfl) ?_
    refine k_imul hx hb dX12_measureRows_80 h (fun r20 h => ?_)
    refine lv_iload hx hb dX12_measureRows_81 (lv_at hl 7 rfl) ?_
    refine k_iadd hx hb dX12_measureRows_83 h (fun r21 h => ?_)
    refine aL 124 80 79 8192 (fun _ _ _ _ => mG_124) (fun _ => rfl) X hw r21 dX12_measureRows_84 rfl h (fun v22 rv22 h => ?_)
    refine kcI (n := 1) (c_notOf rv22 h) G_notOf E_notOf X hw (Nat.le_trans (Nat.le_of_ble_eq_true rfl) hRf) (Nat.le_trans (Nat.le_of_ble_eq_true rfl) hRl) rfl hl.1 (Nat.le_of_ble_eq_true rfl) rfl dX12_measureRows_85 (fun v23 u H locs rv23 h hw => ?_)
    refine kcV (n := 1) (c_put rv23 h) G_put E_put X hw (Nat.le_trans (Nat.le_of_ble_eq_true rfl) hRf) (Nat.le_trans (Nat.le_of_ble_eq_true rfl) hRl) rfl hl.1 (Nat.le_of_ble_eq_true rfl) rfl dX12_measureRows_88 (fun u H locs h hw => ?_)
    refine k_iinc (k := 7) hx hb dX12_measureRows_91 hl rfl (by decide) rfl h (fun ls r25 h hl => ?_)
    have hl : lv_has ls 9 [(7, .int (jI (x7 + 1))), (0, .ref (h0)), (1, .int (jI x1)), (2, .int (jI x2)), (3, .int (jI x3)), (4, .int (jI x4)), (5, .int (jI x5)), (6, .int (jI x6))] := hl
    refine lv_goto hx hb dX12_measureRows_94 (tgt := 58) rfl ?_
    exact hR58 _ _ _ _ _ _ _ _ H locs ls rx1 rx2 rx3 rx4 rx5 rx6 r25 hw (lv_sub hl [1, 2, 3, 4, 5, 6, 7, 0] rfl) h

def w_measureRows_34b (R10 : Int → Int → Int → Int → Int → iST → Prop) (R34 : Int → Int → Int → Int → Int → Int → iST → Prop) (Q : iST → Prop) (x1 : Int) (x2 : Int) (x3 : Int) (x4 : Int) (x5 : Int) (x6 : Int) (u : iST) : Prop :=
  rd (u.1 131) (fun v5 => 
  br (v5 ≤ x6) (
    ov (x5 + 1) (
    R10 x1 x2 x3 x4 (x5 + 1) u)) (
    rd (u.1 61) (fun v7 => 
    br (v7 ≠ 0) (
      ov (x5 + 1) (
      R10 x1 x2 x3 x4 (x5 + 1) u)) (
      sw (iI u 122 0) (fun u => 
      w_measureRows_58 R10 R34 Q x1 x2 x3 x4 x5 x6 0 u)))))
def w_measureRows_34 (R10 : Int → Int → Int → Int → Int → iST → Prop) (Q : iST → Prop) (x1 : Int) (x2 : Int) (x3 : Int) (x4 : Int) (x5 : Int) (x6 : Int) (u : iST) : Prop := ∀ R34 : Int → Int → Int → Int → Int → Int → iST → Prop, (∀ (x1 : Int) (x2 : Int) (x3 : Int) (x4 : Int) (x5 : Int) (x6 : Int) (u : iST), w_measureRows_34b R10 R34 Q x1 x2 x3 x4 x5 x6 u → R34 x1 x2 x3 x4 x5 x6 u) → R34 x1 x2 x3 x4 x5 x6 u
set_option maxRecDepth 20000 in
set_option maxHeartbeats 4000000 in
theorem b_measureRows_34 (X : kX p m c cX12_measureRows 9 s args D ca) (hRf : 6 ≤ R.frames) (hRl : 137 ≤ R.locals) {Q : iST → Prop} (hret : ∀ (u : iST) (H : Heap) (locs : List Loc) (ls : Array Slot) (pc : Nat), Q u → kW D ca A h0 ad H0 H locs u → decode cX12_measureRows pc = .ok (.return_, 1) → W p l e R s m args below meth c H locs 0 0 Qf (F0 m pc ls [])) {R10 : Int → Int → Int → Int → Int → iST → Prop} (hR10 : ∀ (x1 : Int) (x2 : Int) (x3 : Int) (x4 : Int) (x5 : Int) (u : iST) (H : Heap) (locs : List Loc) (ls : Array Slot), inR x1 → inR x2 → inR x3 → inR x4 → inR x5 → kW D ca A h0 ad H0 H locs u → lv_has ls 9 [(0, .ref h0), (1, .int (jI x1)), (2, .int (jI x2)), (3, .int (jI x3)), (4, .int (jI x4)), (5, .int (jI x5))] → R10 x1 x2 x3 x4 x5 u → W p l e R s m args below meth c H locs 0 0 Qf (F0 m 10 ls [])) {x1 x2 x3 x4 x5 x6 : Int} (rx1 : inR x1) (rx2 : inR x2) (rx3 : inR x3) (rx4 : inR x4) (rx5 : inR x5) (rx6 : inR x6) (hw : kW D ca A h0 ad H0 H locs u) (hl : lv_has ls 9 [(0, .ref h0), (1, .int (jI x1)), (2, .int (jI x2)), (3, .int (jI x3)), (4, .int (jI x4)), (5, .int (jI x5)), (6, .int (jI x6))]) (h : w_measureRows_34 R10 Q x1 x2 x3 x4 x5 x6 u) : W p l e R s m args below meth c H locs 0 0 Qf (F0 m 34 ls []) := by
  refine h (fun x1 x2 x3 x4 x5 x6 u => ∀ (H : Heap) (locs : List Loc) (ls : Array Slot), inR x1 → inR x2 → inR x3 → inR x4 → inR x5 → inR x6 → kW D ca A h0 ad H0 H locs u → lv_has ls 9 [(0, .ref h0), (1, .int (jI x1)), (2, .int (jI x2)), (3, .int (jI x3)), (4, .int (jI x4)), (5, .int (jI x5)), (6, .int (jI x6))] → W p l e R s m args below meth c H locs 0 0 Qf (F0 m 34 ls [])) ?_ H locs ls rx1 rx2 rx3 rx4 rx5 rx6 hw hl
  clear h hl hw rx1 rx2 rx3 rx4 rx5 rx6
  intro x1 x2 x3 x4 x5 x6 u h H locs ls rx1 rx2 rx3 rx4 rx5 rx6 hw hl
  have hR34 : ∀ (x1 : Int) (x2 : Int) (x3 : Int) (x4 : Int) (x5 : Int) (x6 : Int) (u : iST) (H : Heap) (locs : List Loc) (ls : Array Slot), inR x1 → inR x2 → inR x3 → inR x4 → inR x5 → inR x6 → kW D ca A h0 ad H0 H locs u → lv_has ls 9 [(0, .ref h0), (1, .int (jI x1)), (2, .int (jI x2)), (3, .int (jI x3)), (4, .int (jI x4)), (5, .int (jI x5)), (6, .int (jI x6))] → (fun (x1 : Int) (x2 : Int) (x3 : Int) (x4 : Int) (x5 : Int) (x6 : Int) u => ∀ (H : Heap) (locs : List Loc) (ls : Array Slot), inR x1 → inR x2 → inR x3 → inR x4 → inR x5 → inR x6 → kW D ca A h0 ad H0 H locs u → lv_has ls 9 [(0, .ref h0), (1, .int (jI x1)), (2, .int (jI x2)), (3, .int (jI x3)), (4, .int (jI x4)), (5, .int (jI x5)), (6, .int (jI x6))] → W p l e R s m args below meth c H locs 0 0 Qf (F0 m 34 ls [])) x1 x2 x3 x4 x5 x6 u → W p l e R s m args below meth c H locs 0 0 Qf (F0 m 34 ls []) := fun x1 x2 x3 x4 x5 x6 u H locs ls rx1 rx2 rx3 rx4 rx5 rx6 hw hl h => h H locs ls rx1 rx2 rx3 rx4 rx5 rx6 hw hl
  have hx := X.1.1
  have hb := X.1.2.1
  unfold w_measureRows_34b at h
  refine lv_iload hx hb dX12_measureRows_34 (lv_at hl 6 rfl) ?_
  refine lv_aload_n hx hb dX12_measureRows_36 rfl (lv_at hl 0 rfl) ?_
  refine gS 131 791 (by decide) L_131 (fun _ _ => mF_131) rfl X hw dX12_measureRows_37 h (fun v5 rv5 h => ?_)
  refine k_icmp_ge hx hb rx6 rv5 dX12_measureRows_40 (tgt := 188) rfl h (fun h => ?_) (fun h => ?_)
  · refine k_iinc (k := 5) hx hb dX12_measureRows_188 hl rfl (by decide) rfl h (fun ls r6 h hl => ?_)
    have hl : lv_has ls 9 [(5, .int (jI (x5 + 1))), (0, .ref (h0)), (1, .int (jI x1)), (2, .int (jI x2)), (3, .int (jI x3)), (4, .int (jI x4)), (6, .int (jI x6))] := hl
    refine lv_goto hx hb dX12_measureRows_191 (tgt := 10) rfl ?_
    exact hR10 _ _ _ _ _ _ H locs ls rx1 rx2 rx3 rx4 r6 hw (lv_sub hl [1, 2, 3, 4, 5, 0] rfl) h
  · refine lv_aload_n hx hb dX12_measureRows_43 rfl (lv_at hl 0 rfl) ?_
    refine gS 61 480 (by decide) L_61 (fun _ _ => mF_61) rfl X hw dX12_measureRows_44 h (fun v7 rv7 h => ?_)
    refine k_if_ne hx hb rv7 dX12_measureRows_47 (tgt := 188) rfl h (fun h => ?_) (fun h => ?_)
    · refine k_iinc (k := 5) hx hb dX12_measureRows_188 hl rfl (by decide) rfl h (fun ls r8 h hl => ?_)
      have hl : lv_has ls 9 [(5, .int (jI (x5 + 1))), (0, .ref (h0)), (1, .int (jI x1)), (2, .int (jI x2)), (3, .int (jI x3)), (4, .int (jI x4)), (6, .int (jI x6))] := hl
      refine lv_goto hx hb dX12_measureRows_191 (tgt := 10) rfl ?_
      exact hR10 _ _ _ _ _ _ H locs ls rx1 rx2 rx3 rx4 r8 hw (lv_sub hl [1, 2, 3, 4, 5, 0] rfl) h
    · refine lv_aload_n hx hb dX12_measureRows_50 rfl (lv_at hl 0 rfl) ?_
      refine lv_iconst hx hb dX12_measureRows_51 (v := jI 0) rfl ?_
      refine pS 122 727 (by decide) L_122 rfl rfl rfl (fun _ _ _ _ _ => mSI_122) (by decide) X hw (by decide) dX12_measureRows_52 h (fun H locs u hw h => ?_)
      refine lv_iconst hx hb dX12_measureRows_55 (v := jI 0) rfl ?_
      refine lv_istore hx hb dX12_measureRows_56 hl (by decide) rfl (fun ls hl => ?_)
      have hl : lv_has ls 9 [(7, .int (jI 0)), (0, .ref (h0)), (1, .int (jI x1)), (2, .int (jI x2)), (3, .int (jI x3)), (4, .int (jI x4)), (5, .int (jI x5)), (6, .int (jI x6))] := hl
      exact b_measureRows_58 X hRf hRl hret hR10 hR34 rx1 rx2 rx3 rx4 rx5 rx6 (by decide) hw (lv_sub hl [1, 2, 3, 4, 5, 6, 7, 0] rfl) h

def w_measureRows_10b (R10 : Int → Int → Int → Int → Int → iST → Prop) (Q : iST → Prop) (x1 : Int) (x2 : Int) (x3 : Int) (x4 : Int) (x5 : Int) (u : iST) : Prop :=
  rd (u.1 126) (fun v2 => 
  br (v2 ≤ x5) (
    Q u) (
    bd x5 128 (rd (u.2.1 123 x5) (fun v3 => 
    w_find v3 x1 (fun u => 
    w_measureRows_34 R10 Q x1 x2 x3 x4 x5 0 u) u))))
def w_measureRows_10 (Q : iST → Prop) (x1 : Int) (x2 : Int) (x3 : Int) (x4 : Int) (x5 : Int) (u : iST) : Prop := ∀ R10 : Int → Int → Int → Int → Int → iST → Prop, (∀ (x1 : Int) (x2 : Int) (x3 : Int) (x4 : Int) (x5 : Int) (u : iST), w_measureRows_10b R10 Q x1 x2 x3 x4 x5 u → R10 x1 x2 x3 x4 x5 u) → R10 x1 x2 x3 x4 x5 u
set_option maxRecDepth 20000 in
set_option maxHeartbeats 4000000 in
theorem b_measureRows_10 (X : kX p m c cX12_measureRows 9 s args D ca) (hRf : 6 ≤ R.frames) (hRl : 137 ≤ R.locals) {Q : iST → Prop} (hret : ∀ (u : iST) (H : Heap) (locs : List Loc) (ls : Array Slot) (pc : Nat), Q u → kW D ca A h0 ad H0 H locs u → decode cX12_measureRows pc = .ok (.return_, 1) → W p l e R s m args below meth c H locs 0 0 Qf (F0 m pc ls [])) {x1 x2 x3 x4 x5 : Int} (rx1 : inR x1) (rx2 : inR x2) (rx3 : inR x3) (rx4 : inR x4) (rx5 : inR x5) (hw : kW D ca A h0 ad H0 H locs u) (hl : lv_has ls 9 [(0, .ref h0), (1, .int (jI x1)), (2, .int (jI x2)), (3, .int (jI x3)), (4, .int (jI x4)), (5, .int (jI x5))]) (h : w_measureRows_10 Q x1 x2 x3 x4 x5 u) : W p l e R s m args below meth c H locs 0 0 Qf (F0 m 10 ls []) := by
  refine h (fun x1 x2 x3 x4 x5 u => ∀ (H : Heap) (locs : List Loc) (ls : Array Slot), inR x1 → inR x2 → inR x3 → inR x4 → inR x5 → kW D ca A h0 ad H0 H locs u → lv_has ls 9 [(0, .ref h0), (1, .int (jI x1)), (2, .int (jI x2)), (3, .int (jI x3)), (4, .int (jI x4)), (5, .int (jI x5))] → W p l e R s m args below meth c H locs 0 0 Qf (F0 m 10 ls [])) ?_ H locs ls rx1 rx2 rx3 rx4 rx5 hw hl
  clear h hl hw rx1 rx2 rx3 rx4 rx5
  intro x1 x2 x3 x4 x5 u h H locs ls rx1 rx2 rx3 rx4 rx5 hw hl
  have hR10 : ∀ (x1 : Int) (x2 : Int) (x3 : Int) (x4 : Int) (x5 : Int) (u : iST) (H : Heap) (locs : List Loc) (ls : Array Slot), inR x1 → inR x2 → inR x3 → inR x4 → inR x5 → kW D ca A h0 ad H0 H locs u → lv_has ls 9 [(0, .ref h0), (1, .int (jI x1)), (2, .int (jI x2)), (3, .int (jI x3)), (4, .int (jI x4)), (5, .int (jI x5))] → (fun (x1 : Int) (x2 : Int) (x3 : Int) (x4 : Int) (x5 : Int) u => ∀ (H : Heap) (locs : List Loc) (ls : Array Slot), inR x1 → inR x2 → inR x3 → inR x4 → inR x5 → kW D ca A h0 ad H0 H locs u → lv_has ls 9 [(0, .ref h0), (1, .int (jI x1)), (2, .int (jI x2)), (3, .int (jI x3)), (4, .int (jI x4)), (5, .int (jI x5))] → W p l e R s m args below meth c H locs 0 0 Qf (F0 m 10 ls [])) x1 x2 x3 x4 x5 u → W p l e R s m args below meth c H locs 0 0 Qf (F0 m 10 ls []) := fun x1 x2 x3 x4 x5 u H locs ls rx1 rx2 rx3 rx4 rx5 hw hl h => h H locs ls rx1 rx2 rx3 rx4 rx5 hw hl
  have hx := X.1.1
  have hb := X.1.2.1
  unfold w_measureRows_10b at h
  refine lv_iload hx hb dX12_measureRows_10 (lv_at hl 5 rfl) ?_
  refine lv_aload_n hx hb dX12_measureRows_12 rfl (lv_at hl 0 rfl) ?_
  refine gS 126 788 (by decide) L_126 (fun _ _ => mF_126) rfl X hw dX12_measureRows_13 h (fun v2 rv2 h => ?_)
  refine k_icmp_ge hx hb rx5 rv2 dX12_measureRows_16 (tgt := 194) rfl h (fun h => ?_) (fun h => ?_)
  · exact hret _ _ _ _ _ h hw dX12_measureRows_194
  · refine lv_aload_n hx hb dX12_measureRows_19 rfl (lv_at hl 0 rfl) ?_
    refine lv_aload_n hx hb dX12_measureRows_20 rfl (lv_at hl 0 rfl) ?_
    refine gA 123 260 (by decide) L_123 (fun _ _ => mF_123) rfl X hw dX12_measureRows_21 ?_
    refine lv_iload hx hb dX12_measureRows_24 (lv_at hl 5 rfl) ?_
    refine aL 123 79 78 128 (fun _ _ _ _ => mG_123) (fun _ => rfl) X hw rx5 dX12_measureRows_26 rfl h (fun v3 rv3 h => ?_)
    refine lv_iload_n hx hb dX12_measureRows_27 rfl (lv_at hl 1 rfl) ?_
    refine kcV (n := 2) (c_find rv3 rx1 h) G_find E_find X hw (Nat.le_trans (Nat.le_of_ble_eq_true rfl) hRf) (Nat.le_trans (Nat.le_of_ble_eq_true rfl) hRl) rfl hl.1 (Nat.le_of_ble_eq_true rfl) rfl dX12_measureRows_28 (fun u H locs h hw => ?_)
    refine lv_iconst hx hb dX12_measureRows_31 (v := jI 0) rfl ?_
    refine lv_istore hx hb dX12_measureRows_32 hl (by decide) rfl (fun ls hl => ?_)
    have hl : lv_has ls 9 [(6, .int (jI 0)), (0, .ref (h0)), (1, .int (jI x1)), (2, .int (jI x2)), (3, .int (jI x3)), (4, .int (jI x4)), (5, .int (jI x5))] := hl
    exact b_measureRows_34 X hRf hRl hret hR10 rx1 rx2 rx3 rx4 rx5 (by decide) hw (lv_sub hl [1, 2, 3, 4, 5, 6, 0] rfl) h

def w_measureRows (a0 : Int) (a1 : Int) (a2 : Int) (Q : iST → Prop) (u : iST) : Prop :=
  w_lengthOf a1 (fun v1 u => 
  w_measureRows_10 Q a0 a1 a2 v1 0 u) u
set_option maxRecDepth 20000 in
set_option maxHeartbeats 4000000 in
theorem b_measureRows_s (X : kX p m c cX12_measureRows 9 s args D ca) (hRf : 6 ≤ R.frames) (hRl : 137 ≤ R.locals) {Q : iST → Prop} (hret : ∀ (u : iST) (H : Heap) (locs : List Loc) (ls : Array Slot) (pc : Nat), Q u → kW D ca A h0 ad H0 H locs u → decode cX12_measureRows pc = .ok (.return_, 1) → W p l e R s m args below meth c H locs 0 0 Qf (F0 m pc ls [])) {a0 a1 a2 : Int} (ra0 : inR a0) (ra1 : inR a1) (ra2 : inR a2) (hw : kW D ca A h0 ad H0 H locs u) (hl : lv_has ls 9 [(0, .ref h0), (1, .int (jI a0)), (2, .int (jI a1)), (3, .int (jI a2))]) (h : w_measureRows a0 a1 a2 Q u) : W p l e R s m args below meth c H locs 0 0 Qf (F0 m 0 ls []) := by
  have hx := X.1.1
  have hb := X.1.2.1
  unfold w_measureRows at h
  refine lv_aload_n hx hb dX12_measureRows_0 rfl (lv_at hl 0 rfl) ?_
  refine lv_iload_n hx hb dX12_measureRows_1 rfl (lv_at hl 2 rfl) ?_
  refine kcI (n := 1) (c_lengthOf ra1 h) G_lengthOf E_lengthOf X hw (Nat.le_trans (Nat.le_of_ble_eq_true rfl) hRf) (Nat.le_trans (Nat.le_of_ble_eq_true rfl) hRl) rfl hl.1 (Nat.le_of_ble_eq_true rfl) rfl dX12_measureRows_2 (fun v1 u H locs rv1 h hw => ?_)
  refine lv_istore hx hb dX12_measureRows_5 hl (by decide) rfl (fun ls hl => ?_)
  have hl : lv_has ls 9 [(4, .int (jI v1)), (0, .ref (h0)), (1, .int (jI a0)), (2, .int (jI a1)), (3, .int (jI a2))] := hl
  refine lv_iconst hx hb dX12_measureRows_7 (v := jI 0) rfl ?_
  refine lv_istore hx hb dX12_measureRows_8 hl (by decide) rfl (fun ls hl => ?_)
  have hl : lv_has ls 9 [(5, .int (jI 0)), (4, .int (jI v1)), (0, .ref (h0)), (1, .int (jI a0)), (2, .int (jI a1)), (3, .int (jI a2))] := hl
  exact b_measureRows_10 X hRf hRl hret ra0 ra1 ra2 rv1 (by decide) hw (lv_sub hl [2, 3, 4, 5, 1, 0] rfl) h

end
theorem c_measureRows {l : Launch} {a0 : Int} {a1 : Int} {a2 : Int} (ra0 : inR a0) (ra1 : inR a1) (ra2 : inR a2) {Q : iST → Prop} {u : iST} (h : w_measureRows a0 a1 a2 Q u) : kMV l yX12_measureRows (.code yX12_measureRows cX12_measureRows 9 none :: wsM) { frames := 6, cells := 0, slots := 0, locals := 137 } [.int (jI a0), .int (jI a1), .int (jI a2)] Q u := kMV_of rfl (fun _ => Nat.le_of_ble_eq_true rfl) (fun X hRf hRl hret hw hl => b_measureRows_s X hRf hRl hret ra0 ra1 ra2 hw hl h)

/-! take -/
theorem dX12_take_0 : decode cX12_take 0 = .ok (.aload_n 0, 1) := by decide +kernel
theorem dX12_take_1 : decode cX12_take 1 = .ok (.getfield 130, 3) := by decide +kernel
theorem dX12_take_4 : decode cX12_take 4 = .ok (.aload_n 0, 1) := by decide +kernel
theorem dX12_take_5 : decode cX12_take 5 = .ok (.getfield 845, 3) := by decide +kernel
theorem dX12_take_8 : decode cX12_take 8 = .ok (.iload_n 1, 1) := by decide +kernel
theorem dX12_take_9 : decode cX12_take 9 = .ok (.iastore, 1) := by decide +kernel
theorem dX12_take_10 : decode cX12_take 10 = .ok (.aload_n 0, 1) := by decide +kernel
theorem dX12_take_11 : decode cX12_take 11 = .ok (.getfield 133, 3) := by decide +kernel
theorem dX12_take_14 : decode cX12_take 14 = .ok (.aload_n 0, 1) := by decide +kernel
theorem dX12_take_15 : decode cX12_take 15 = .ok (.getfield 845, 3) := by decide +kernel
theorem dX12_take_18 : decode cX12_take 18 = .ok (.aload_n 0, 1) := by decide +kernel
theorem dX12_take_19 : decode cX12_take 19 = .ok (.getfield 848, 3) := by decide +kernel
theorem dX12_take_22 : decode cX12_take 22 = .ok (.iastore, 1) := by decide +kernel
theorem dX12_take_23 : decode cX12_take 23 = .ok (.aload_n 0, 1) := by decide +kernel
theorem dX12_take_24 : decode cX12_take 24 = .ok (.dup, 1) := by decide +kernel
theorem dX12_take_25 : decode cX12_take 25 = .ok (.getfield 845, 3) := by decide +kernel
theorem dX12_take_28 : decode cX12_take 28 = .ok (.iconst 1, 1) := by decide +kernel
theorem dX12_take_29 : decode cX12_take 29 = .ok (.iadd, 1) := by decide +kernel
theorem dX12_take_30 : decode cX12_take 30 = .ok (.putfield 845, 3) := by decide +kernel
theorem dX12_take_33 : decode cX12_take 33 = .ok (.return_, 1) := by decide +kernel

section
variable {p : Program} {l : Launch} {e : Env} {R : Room} {s : State} {m : MethodId} {args : Array Value} {below : List Frame} {meth : Method} {c : Code} {H : Heap} {locs : List Loc} {Qf : State → Prop}
variable {ls : Array Slot} {D : va_G} {ca : Nat → ClassId} {A : Nat → Prop} {h0 : Nat} {ad : Nat → Nat} {H0 : Heap} {u : iST}
def w_take (a0 : Int) (Q : iST → Prop) (u : iST) : Prop :=
  rd (u.1 54) (fun v1 => 
  bd v1 100 (sw (iA u 55 v1 a0) (fun u => 
  rd (u.1 54) (fun v2 => 
  rd (u.1 132) (fun v3 => 
  bd v2 100 (sw (iA u 56 v2 v3) (fun u => 
  rd (u.1 54) (fun v4 => 
  ov (v4 + 1) (
  sw (iI u 54 (v4 + 1)) (fun u => 
  Q u))))))))))
set_option maxRecDepth 20000 in
set_option maxHeartbeats 4000000 in
theorem b_take_s (X : kX p m c cX12_take 2 s args D ca) (hRf : 0 ≤ R.frames) (hRl : 0 ≤ R.locals) {Q : iST → Prop} (hret : ∀ (u : iST) (H : Heap) (locs : List Loc) (ls : Array Slot) (pc : Nat), Q u → kW D ca A h0 ad H0 H locs u → decode cX12_take pc = .ok (.return_, 1) → W p l e R s m args below meth c H locs 0 0 Qf (F0 m pc ls [])) {a0 : Int} (ra0 : inR a0) (hw : kW D ca A h0 ad H0 H locs u) (hl : lv_has ls 2 [(0, .ref h0), (1, .int (jI a0))]) (h : w_take a0 Q u) : W p l e R s m args below meth c H locs 0 0 Qf (F0 m 0 ls []) := by
  have hx := X.1.1
  have hb := X.1.2.1
  unfold w_take at h
  refine lv_aload_n hx hb dX12_take_0 rfl (lv_at hl 0 rfl) ?_
  refine gA 55 130 (by decide) L_55 (fun _ _ => mF_55) rfl X hw dX12_take_1 ?_
  refine lv_aload_n hx hb dX12_take_4 rfl (lv_at hl 0 rfl) ?_
  refine gS 54 845 (by decide) L_54 (fun _ _ => mF_54) rfl X hw dX12_take_5 h (fun v1 rv1 h => ?_)
  refine lv_iload_n hx hb dX12_take_8 rfl (lv_at hl 1 rfl) ?_
  refine aS 55 38 37 100 (fun _ _ _ _ => mG_55) (fun _ => rfl) (fun _ _ _ _ _ _ => mSA_55) (by decide) X hw rv1 ra0 dX12_take_9 rfl h (fun H locs u hw h => ?_)
  refine lv_aload_n hx hb dX12_take_10 rfl (lv_at hl 0 rfl) ?_
  refine gA 56 133 (by decide) L_56 (fun _ _ => mF_56) rfl X hw dX12_take_11 ?_
  refine lv_aload_n hx hb dX12_take_14 rfl (lv_at hl 0 rfl) ?_
  refine gS 54 845 (by decide) L_54 (fun _ _ => mF_54) rfl X hw dX12_take_15 h (fun v2 rv2 h => ?_)
  refine lv_aload_n hx hb dX12_take_18 rfl (lv_at hl 0 rfl) ?_
  refine gS 132 848 (by decide) L_132 (fun _ _ => mF_132) rfl X hw dX12_take_19 h (fun v3 rv3 h => ?_)
  refine aS 56 39 38 100 (fun _ _ _ _ => mG_56) (fun _ => rfl) (fun _ _ _ _ _ _ => mSA_56) (by decide) X hw rv2 rv3 dX12_take_22 rfl h (fun H locs u hw h => ?_)
  refine lv_aload_n hx hb dX12_take_23 rfl (lv_at hl 0 rfl) ?_
  refine lv_dup hx hb dX12_take_24 rfl ?_
  refine gS 54 845 (by decide) L_54 (fun _ _ => mF_54) rfl X hw dX12_take_25 h (fun v4 rv4 h => ?_)
  refine lv_iconst hx hb dX12_take_28 (v := jI 1) rfl ?_
  refine k_iadd hx hb dX12_take_29 h (fun r5 h => ?_)
  refine pS 54 845 (by decide) L_54 rfl rfl rfl (fun _ _ _ _ _ => mSI_54) (by decide) X hw r5 dX12_take_30 h (fun H locs u hw h => ?_)
  exact hret _ _ _ _ _ h hw dX12_take_33

end
theorem c_take {l : Launch} {a0 : Int} (ra0 : inR a0) {Q : iST → Prop} {u : iST} (h : w_take a0 Q u) : kMV l yX12_take (.code yX12_take cX12_take 2 none :: wsM) { frames := 0, cells := 0, slots := 0, locals := 0 } [.int (jI a0)] Q u := kMV_of rfl (fun _ => Nat.le_of_ble_eq_true rfl) (fun X hRf hRl hret hw hl => b_take_s X hRf hRl hret ra0 hw hl h)

/-! defun -/
theorem dX12_defun_0 : decode cX12_defun 0 = .ok (.aload_n 0, 1) := by decide +kernel
theorem dX12_defun_1 : decode cX12_defun 1 = .ok (.iload_n 1, 1) := by decide +kernel
theorem dX12_defun_2 : decode cX12_defun 2 = .ok (.invokevirtual 529, 3) := by decide +kernel
theorem dX12_defun_5 : decode cX12_defun 5 = .ok (.istore_n 2, 1) := by decide +kernel
theorem dX12_defun_6 : decode cX12_defun 6 = .ok (.iload_n 2, 1) := by decide +kernel
theorem dX12_defun_7 : decode cX12_defun 7 = .ok (.iconst 4, 1) := by decide +kernel
theorem dX12_defun_8 : decode cX12_defun 8 = .ok (.if_icmp .eq 8, 3) := by decide +kernel
theorem dX12_defun_11 : decode cX12_defun 11 = .ok (.iload_n 2, 1) := by decide +kernel
theorem dX12_defun_12 : decode cX12_defun 12 = .ok (.iconst 5, 1) := by decide +kernel
theorem dX12_defun_13 : decode cX12_defun 13 = .ok (.if_icmp .ne 31, 3) := by decide +kernel
theorem dX12_defun_16 : decode cX12_defun 16 = .ok (.aload_n 0, 1) := by decide +kernel
theorem dX12_defun_17 : decode cX12_defun 17 = .ok (.aload_n 0, 1) := by decide +kernel
theorem dX12_defun_18 : decode cX12_defun 18 = .ok (.iload_n 1, 1) := by decide +kernel
theorem dX12_defun_19 : decode cX12_defun 19 = .ok (.iconst 1, 1) := by decide +kernel
theorem dX12_defun_20 : decode cX12_defun 20 = .ok (.invokevirtual 471, 3) := by decide +kernel
theorem dX12_defun_23 : decode cX12_defun 23 = .ok (.invokevirtual 809, 3) := by decide +kernel
theorem dX12_defun_26 : decode cX12_defun 26 = .ok (.ifCond .eq 18, 3) := by decide +kernel
theorem dX12_defun_29 : decode cX12_defun 29 = .ok (.aload_n 0, 1) := by decide +kernel
theorem dX12_defun_30 : decode cX12_defun 30 = .ok (.aload_n 0, 1) := by decide +kernel
theorem dX12_defun_31 : decode cX12_defun 31 = .ok (.iload_n 1, 1) := by decide +kernel
theorem dX12_defun_32 : decode cX12_defun 32 = .ok (.iconst 2, 1) := by decide +kernel
theorem dX12_defun_33 : decode cX12_defun 33 = .ok (.invokevirtual 471, 3) := by decide +kernel
theorem dX12_defun_36 : decode cX12_defun 36 = .ok (.bipush 6, 2) := by decide +kernel
theorem dX12_defun_38 : decode cX12_defun 38 = .ok (.invokevirtual 812, 3) := by decide +kernel
theorem dX12_defun_41 : decode cX12_defun 41 = .ok (.ifCond .ne 5, 3) := by decide +kernel
theorem dX12_defun_44 : decode cX12_defun 44 = .ok (.iconst 2, 1) := by decide +kernel
theorem dX12_defun_45 : decode cX12_defun 45 = .ok (.ireturn, 1) := by decide +kernel
theorem dX12_defun_46 : decode cX12_defun 46 = .ok (.aload_n 0, 1) := by decide +kernel
theorem dX12_defun_47 : decode cX12_defun 47 = .ok (.iload_n 1, 1) := by decide +kernel
theorem dX12_defun_48 : decode cX12_defun 48 = .ok (.iconst 1, 1) := by decide +kernel
theorem dX12_defun_49 : decode cX12_defun 49 = .ok (.invokevirtual 471, 3) := by decide +kernel
theorem dX12_defun_52 : decode cX12_defun 52 = .ok (.istore_n 3, 1) := by decide +kernel
theorem dX12_defun_53 : decode cX12_defun 53 = .ok (.aload_n 0, 1) := by decide +kernel
theorem dX12_defun_54 : decode cX12_defun 54 = .ok (.iload_n 1, 1) := by decide +kernel
theorem dX12_defun_55 : decode cX12_defun 55 = .ok (.iconst 2, 1) := by decide +kernel
theorem dX12_defun_56 : decode cX12_defun 56 = .ok (.invokevirtual 471, 3) := by decide +kernel
theorem dX12_defun_59 : decode cX12_defun 59 = .ok (.istore 4, 2) := by decide +kernel
theorem dX12_defun_61 : decode cX12_defun 61 = .ok (.aload_n 0, 1) := by decide +kernel
theorem dX12_defun_62 : decode cX12_defun 62 = .ok (.iload_n 3, 1) := by decide +kernel
theorem dX12_defun_63 : decode cX12_defun 63 = .ok (.putfield 136, 3) := by decide +kernel
theorem dX12_defun_66 : decode cX12_defun 66 = .ok (.aload_n 0, 1) := by decide +kernel
theorem dX12_defun_67 : decode cX12_defun 67 = .ok (.aload_n 0, 1) := by decide +kernel
theorem dX12_defun_68 : decode cX12_defun 68 = .ok (.iload 4, 2) := by decide +kernel
theorem dX12_defun_70 : decode cX12_defun 70 = .ok (.invokevirtual 529, 3) := by decide +kernel
theorem dX12_defun_73 : decode cX12_defun 73 = .ok (.putfield 477, 3) := by decide +kernel
theorem dX12_defun_76 : decode cX12_defun 76 = .ok (.aload_n 0, 1) := by decide +kernel
theorem dX12_defun_77 : decode cX12_defun 77 = .ok (.aload_n 0, 1) := by decide +kernel
theorem dX12_defun_78 : decode cX12_defun 78 = .ok (.iload_n 1, 1) := by decide +kernel
theorem dX12_defun_79 : decode cX12_defun 79 = .ok (.iconst 3, 1) := by decide +kernel
theorem dX12_defun_80 : decode cX12_defun 80 = .ok (.invokevirtual 471, 3) := by decide +kernel
theorem dX12_defun_83 : decode cX12_defun 83 = .ok (.invokevirtual 815, 3) := by decide +kernel
theorem dX12_defun_86 : decode cX12_defun 86 = .ok (.istore 5, 2) := by decide +kernel
theorem dX12_defun_88 : decode cX12_defun 88 = .ok (.iload_n 2, 1) := by decide +kernel
theorem dX12_defun_89 : decode cX12_defun 89 = .ok (.iconst 5, 1) := by decide +kernel
theorem dX12_defun_90 : decode cX12_defun 90 = .ok (.if_icmp .ne 16, 3) := by decide +kernel
theorem dX12_defun_93 : decode cX12_defun 93 = .ok (.aload_n 0, 1) := by decide +kernel
theorem dX12_defun_94 : decode cX12_defun 94 = .ok (.aload_n 0, 1) := by decide +kernel
theorem dX12_defun_95 : decode cX12_defun 95 = .ok (.iload_n 1, 1) := by decide +kernel
theorem dX12_defun_96 : decode cX12_defun 96 = .ok (.iconst 4, 1) := by decide +kernel
theorem dX12_defun_97 : decode cX12_defun 97 = .ok (.invokevirtual 471, 3) := by decide +kernel
theorem dX12_defun_100 : decode cX12_defun 100 = .ok (.invokevirtual 815, 3) := by decide +kernel
theorem dX12_defun_103 : decode cX12_defun 103 = .ok (.goto 4, 3) := by decide +kernel
theorem dX12_defun_106 : decode cX12_defun 106 = .ok (.iconst (-1), 1) := by decide +kernel
theorem dX12_defun_107 : decode cX12_defun 107 = .ok (.istore 6, 2) := by decide +kernel
theorem dX12_defun_109 : decode cX12_defun 109 = .ok (.aload_n 0, 1) := by decide +kernel
theorem dX12_defun_110 : decode cX12_defun 110 = .ok (.iconst (-1), 1) := by decide +kernel
theorem dX12_defun_111 : decode cX12_defun 111 = .ok (.putfield 136, 3) := by decide +kernel
theorem dX12_defun_114 : decode cX12_defun 114 = .ok (.iload 5, 2) := by decide +kernel
theorem dX12_defun_116 : decode cX12_defun 116 = .ok (.iconst (-1), 1) := by decide +kernel
theorem dX12_defun_117 : decode cX12_defun 117 = .ok (.if_icmp .eq 25, 3) := by decide +kernel
theorem dX12_defun_120 : decode cX12_defun 120 = .ok (.iload_n 2, 1) := by decide +kernel
theorem dX12_defun_121 : decode cX12_defun 121 = .ok (.iconst 5, 1) := by decide +kernel
theorem dX12_defun_122 : decode cX12_defun 122 = .ok (.if_icmp .ne 9, 3) := by decide +kernel
theorem dX12_defun_125 : decode cX12_defun 125 = .ok (.iload 6, 2) := by decide +kernel
theorem dX12_defun_127 : decode cX12_defun 127 = .ok (.iconst (-1), 1) := by decide +kernel
theorem dX12_defun_128 : decode cX12_defun 128 = .ok (.if_icmp .eq 14, 3) := by decide +kernel
theorem dX12_defun_131 : decode cX12_defun 131 = .ok (.aload_n 0, 1) := by decide +kernel
theorem dX12_defun_132 : decode cX12_defun 132 = .ok (.iload 5, 2) := by decide +kernel
theorem dX12_defun_134 : decode cX12_defun 134 = .ok (.iload 4, 2) := by decide +kernel
theorem dX12_defun_136 : decode cX12_defun 136 = .ok (.invokevirtual 818, 3) := by decide +kernel
theorem dX12_defun_139 : decode cX12_defun 139 = .ok (.ifCond .ne 5, 3) := by decide +kernel
theorem dX12_defun_142 : decode cX12_defun 142 = .ok (.iconst 2, 1) := by decide +kernel
theorem dX12_defun_143 : decode cX12_defun 143 = .ok (.ireturn, 1) := by decide +kernel
theorem dX12_defun_144 : decode cX12_defun 144 = .ok (.aload_n 0, 1) := by decide +kernel
theorem dX12_defun_145 : decode cX12_defun 145 = .ok (.iload 5, 2) := by decide +kernel
theorem dX12_defun_147 : decode cX12_defun 147 = .ok (.iload_n 3, 1) := by decide +kernel
theorem dX12_defun_148 : decode cX12_defun 148 = .ok (.invokevirtual 803, 3) := by decide +kernel
theorem dX12_defun_151 : decode cX12_defun 151 = .ok (.istore 7, 2) := by decide +kernel
theorem dX12_defun_153 : decode cX12_defun 153 = .ok (.iload 7, 2) := by decide +kernel
theorem dX12_defun_155 : decode cX12_defun 155 = .ok (.iload_n 2, 1) := by decide +kernel
theorem dX12_defun_156 : decode cX12_defun 156 = .ok (.iconst 5, 1) := by decide +kernel
theorem dX12_defun_157 : decode cX12_defun 157 = .ok (.if_icmp .ne 7, 3) := by decide +kernel
theorem dX12_defun_160 : decode cX12_defun 160 = .ok (.iconst 1, 1) := by decide +kernel
theorem dX12_defun_161 : decode cX12_defun 161 = .ok (.goto 4, 3) := by decide +kernel
theorem dX12_defun_164 : decode cX12_defun 164 = .ok (.iconst 0, 1) := by decide +kernel
theorem dX12_defun_165 : decode cX12_defun 165 = .ok (.if_icmp .eq 5, 3) := by decide +kernel
theorem dX12_defun_168 : decode cX12_defun 168 = .ok (.iconst 2, 1) := by decide +kernel
theorem dX12_defun_169 : decode cX12_defun 169 = .ok (.ireturn, 1) := by decide +kernel
theorem dX12_defun_170 : decode cX12_defun 170 = .ok (.iload_n 2, 1) := by decide +kernel
theorem dX12_defun_171 : decode cX12_defun 171 = .ok (.iconst 5, 1) := by decide +kernel
theorem dX12_defun_172 : decode cX12_defun 172 = .ok (.if_icmp .ne 26, 3) := by decide +kernel
theorem dX12_defun_175 : decode cX12_defun 175 = .ok (.aload_n 0, 1) := by decide +kernel
theorem dX12_defun_176 : decode cX12_defun 176 = .ok (.iload 6, 2) := by decide +kernel
theorem dX12_defun_178 : decode cX12_defun 178 = .ok (.iload 4, 2) := by decide +kernel
theorem dX12_defun_180 : decode cX12_defun 180 = .ok (.invokevirtual 818, 3) := by decide +kernel
theorem dX12_defun_183 : decode cX12_defun 183 = .ok (.ifCond .eq 13, 3) := by decide +kernel
theorem dX12_defun_186 : decode cX12_defun 186 = .ok (.aload_n 0, 1) := by decide +kernel
theorem dX12_defun_187 : decode cX12_defun 187 = .ok (.iload 6, 2) := by decide +kernel
theorem dX12_defun_189 : decode cX12_defun 189 = .ok (.iload_n 3, 1) := by decide +kernel
theorem dX12_defun_190 : decode cX12_defun 190 = .ok (.invokevirtual 803, 3) := by decide +kernel
theorem dX12_defun_193 : decode cX12_defun 193 = .ok (.ifCond .eq 5, 3) := by decide +kernel
theorem dX12_defun_196 : decode cX12_defun 196 = .ok (.iconst 2, 1) := by decide +kernel
theorem dX12_defun_197 : decode cX12_defun 197 = .ok (.ireturn, 1) := by decide +kernel
theorem dX12_defun_198 : decode cX12_defun 198 = .ok (.aload_n 0, 1) := by decide +kernel
theorem dX12_defun_199 : decode cX12_defun 199 = .ok (.getfield 332, 3) := by decide +kernel
theorem dX12_defun_202 : decode cX12_defun 202 = .ok (.istore 8, 2) := by decide +kernel
theorem dX12_defun_204 : decode cX12_defun 204 = .ok (.aload_n 0, 1) := by decide +kernel
theorem dX12_defun_205 : decode cX12_defun 205 = .ok (.iload 5, 2) := by decide +kernel
theorem dX12_defun_207 : decode cX12_defun 207 = .ok (.invokevirtual 821, 3) := by decide +kernel
theorem dX12_defun_210 : decode cX12_defun 210 = .ok (.aload_n 0, 1) := by decide +kernel
theorem dX12_defun_211 : decode cX12_defun 211 = .ok (.iload_n 3, 1) := by decide +kernel
theorem dX12_defun_212 : decode cX12_defun 212 = .ok (.invokevirtual 824, 3) := by decide +kernel
theorem dX12_defun_215 : decode cX12_defun 215 = .ok (.ifCond .ne 5, 3) := by decide +kernel
theorem dX12_defun_218 : decode cX12_defun 218 = .ok (.iconst 2, 1) := by decide +kernel
theorem dX12_defun_219 : decode cX12_defun 219 = .ok (.ireturn, 1) := by decide +kernel
theorem dX12_defun_220 : decode cX12_defun 220 = .ok (.aload_n 0, 1) := by decide +kernel
theorem dX12_defun_221 : decode cX12_defun 221 = .ok (.iload_n 3, 1) := by decide +kernel
theorem dX12_defun_222 : decode cX12_defun 222 = .ok (.invokevirtual 827, 3) := by decide +kernel
theorem dX12_defun_225 : decode cX12_defun 225 = .ok (.iconst (-1), 1) := by decide +kernel
theorem dX12_defun_226 : decode cX12_defun 226 = .ok (.if_icmp .eq 5, 3) := by decide +kernel
theorem dX12_defun_229 : decode cX12_defun 229 = .ok (.iconst 3, 1) := by decide +kernel
theorem dX12_defun_230 : decode cX12_defun 230 = .ok (.ireturn, 1) := by decide +kernel
theorem dX12_defun_231 : decode cX12_defun 231 = .ok (.aload_n 0, 1) := by decide +kernel
theorem dX12_defun_232 : decode cX12_defun 232 = .ok (.getfield 474, 3) := by decide +kernel
theorem dX12_defun_235 : decode cX12_defun 235 = .ok (.bipush 40, 2) := by decide +kernel
theorem dX12_defun_237 : decode cX12_defun 237 = .ok (.if_icmp .ne 6, 3) := by decide +kernel
theorem dX12_defun_240 : decode cX12_defun 240 = .ok (.bipush 8, 2) := by decide +kernel
theorem dX12_defun_242 : decode cX12_defun 242 = .ok (.ireturn, 1) := by decide +kernel
theorem dX12_defun_243 : decode cX12_defun 243 = .ok (.iload 7, 2) := by decide +kernel
theorem dX12_defun_245 : decode cX12_defun 245 = .ok (.ifCond .eq 58, 3) := by decide +kernel
theorem dX12_defun_248 : decode cX12_defun 248 = .ok (.aload_n 0, 1) := by decide +kernel
theorem dX12_defun_249 : decode cX12_defun 249 = .ok (.iconst 0, 1) := by decide +kernel
theorem dX12_defun_250 : decode cX12_defun 250 = .ok (.putfield 733, 3) := by decide +kernel
theorem dX12_defun_253 : decode cX12_defun 253 = .ok (.aload_n 0, 1) := by decide +kernel
theorem dX12_defun_254 : decode cX12_defun 254 = .ok (.iload_n 3, 1) := by decide +kernel
theorem dX12_defun_255 : decode cX12_defun 255 = .ok (.iload 4, 2) := by decide +kernel
theorem dX12_defun_257 : decode cX12_defun 257 = .ok (.iload 6, 2) := by decide +kernel
theorem dX12_defun_259 : decode cX12_defun 259 = .ok (.invokevirtual 830, 3) := by decide +kernel
theorem dX12_defun_262 : decode cX12_defun 262 = .ok (.aload_n 0, 1) := by decide +kernel
theorem dX12_defun_263 : decode cX12_defun 263 = .ok (.getfield 480, 3) := by decide +kernel
theorem dX12_defun_266 : decode cX12_defun 266 = .ok (.ifCond .ne 14, 3) := by decide +kernel
theorem dX12_defun_269 : decode cX12_defun 269 = .ok (.aload_n 0, 1) := by decide +kernel
theorem dX12_defun_270 : decode cX12_defun 270 = .ok (.invokevirtual 833, 3) := by decide +kernel
theorem dX12_defun_273 : decode cX12_defun 273 = .ok (.ifCond .eq 7, 3) := by decide +kernel
theorem dX12_defun_276 : decode cX12_defun 276 = .ok (.iconst 1, 1) := by decide +kernel
theorem dX12_defun_277 : decode cX12_defun 277 = .ok (.goto 4, 3) := by decide +kernel
theorem dX12_defun_280 : decode cX12_defun 280 = .ok (.iconst 0, 1) := by decide +kernel
theorem dX12_defun_281 : decode cX12_defun 281 = .ok (.istore 9, 2) := by decide +kernel
theorem dX12_defun_283 : decode cX12_defun 283 = .ok (.aload_n 0, 1) := by decide +kernel
theorem dX12_defun_284 : decode cX12_defun 284 = .ok (.getfield 480, 3) := by decide +kernel
theorem dX12_defun_287 : decode cX12_defun 287 = .ok (.ifCond .eq 5, 3) := by decide +kernel
theorem dX12_defun_290 : decode cX12_defun 290 = .ok (.iconst 4, 1) := by decide +kernel
theorem dX12_defun_291 : decode cX12_defun 291 = .ok (.ireturn, 1) := by decide +kernel
theorem dX12_defun_292 : decode cX12_defun 292 = .ok (.iload 9, 2) := by decide +kernel
theorem dX12_defun_294 : decode cX12_defun 294 = .ok (.ifCond .ne 9, 3) := by decide +kernel
theorem dX12_defun_297 : decode cX12_defun 297 = .ok (.aload_n 0, 1) := by decide +kernel
theorem dX12_defun_298 : decode cX12_defun 298 = .ok (.invokevirtual 836, 3) := by decide +kernel
theorem dX12_defun_301 : decode cX12_defun 301 = .ok (.iconst 5, 1) := by decide +kernel
theorem dX12_defun_302 : decode cX12_defun 302 = .ok (.ireturn, 1) := by decide +kernel
theorem dX12_defun_303 : decode cX12_defun 303 = .ok (.aload_n 0, 1) := by decide +kernel
theorem dX12_defun_304 : decode cX12_defun 304 = .ok (.iload 8, 2) := by decide +kernel
theorem dX12_defun_306 : decode cX12_defun 306 = .ok (.invokevirtual 839, 3) := by decide +kernel
theorem dX12_defun_309 : decode cX12_defun 309 = .ok (.aload_n 0, 1) := by decide +kernel
theorem dX12_defun_310 : decode cX12_defun 310 = .ok (.getfield 78, 3) := by decide +kernel
theorem dX12_defun_313 : decode cX12_defun 313 = .ok (.aload_n 0, 1) := by decide +kernel
theorem dX12_defun_314 : decode cX12_defun 314 = .ok (.getfield 474, 3) := by decide +kernel
theorem dX12_defun_317 : decode cX12_defun 317 = .ok (.iload_n 3, 1) := by decide +kernel
theorem dX12_defun_318 : decode cX12_defun 318 = .ok (.iastore, 1) := by decide +kernel
theorem dX12_defun_319 : decode cX12_defun 319 = .ok (.aload_n 0, 1) := by decide +kernel
theorem dX12_defun_320 : decode cX12_defun 320 = .ok (.getfield 81, 3) := by decide +kernel
theorem dX12_defun_323 : decode cX12_defun 323 = .ok (.aload_n 0, 1) := by decide +kernel
theorem dX12_defun_324 : decode cX12_defun 324 = .ok (.getfield 474, 3) := by decide +kernel
theorem dX12_defun_327 : decode cX12_defun 327 = .ok (.aload_n 0, 1) := by decide +kernel
theorem dX12_defun_328 : decode cX12_defun 328 = .ok (.iload 4, 2) := by decide +kernel
theorem dX12_defun_330 : decode cX12_defun 330 = .ok (.invokevirtual 529, 3) := by decide +kernel
theorem dX12_defun_333 : decode cX12_defun 333 = .ok (.iastore, 1) := by decide +kernel
theorem dX12_defun_334 : decode cX12_defun 334 = .ok (.iconst 0, 1) := by decide +kernel
theorem dX12_defun_335 : decode cX12_defun 335 = .ok (.istore 9, 2) := by decide +kernel
theorem dX12_defun_337 : decode cX12_defun 337 = .ok (.iload 9, 2) := by decide +kernel
theorem dX12_defun_339 : decode cX12_defun 339 = .ok (.aload_n 0, 1) := by decide +kernel
theorem dX12_defun_340 : decode cX12_defun 340 = .ok (.getfield 81, 3) := by decide +kernel
theorem dX12_defun_343 : decode cX12_defun 343 = .ok (.aload_n 0, 1) := by decide +kernel
theorem dX12_defun_344 : decode cX12_defun 344 = .ok (.getfield 474, 3) := by decide +kernel
theorem dX12_defun_347 : decode cX12_defun 347 = .ok (.iaload, 1) := by decide +kernel
theorem dX12_defun_348 : decode cX12_defun 348 = .ok (.if_icmp .ge 32, 3) := by decide +kernel
theorem dX12_defun_351 : decode cX12_defun 351 = .ok (.aload_n 0, 1) := by decide +kernel
theorem dX12_defun_352 : decode cX12_defun 352 = .ok (.getfield 84, 3) := by decide +kernel
theorem dX12_defun_355 : decode cX12_defun 355 = .ok (.bipush 6, 2) := by decide +kernel
theorem dX12_defun_357 : decode cX12_defun 357 = .ok (.aload_n 0, 1) := by decide +kernel
theorem dX12_defun_358 : decode cX12_defun 358 = .ok (.getfield 474, 3) := by decide +kernel
theorem dX12_defun_361 : decode cX12_defun 361 = .ok (.imul, 1) := by decide +kernel
theorem dX12_defun_362 : decode cX12_defun 362 = .ok (.iload 9, 2) := by decide +kernel
theorem dX12_defun_364 : decode cX12_defun 364 = .ok (.iadd, 1) := by decide +kernel
theorem dX12_defun_365 : decode cX12_defun 365 = .ok (.aload_n 0, 1) := by decide +kernel
theorem dX12_defun_366 : decode cX12_defun 366 = .ok (.iload 4, 2) := by decide +kernel
theorem dX12_defun_368 : decode cX12_defun 368 = .ok (.iload 9, 2) := by decide +kernel
theorem dX12_defun_370 : decode cX12_defun 370 = .ok (.invokevirtual 471, 3) := by decide +kernel
theorem dX12_defun_373 : decode cX12_defun 373 = .ok (.iastore, 1) := by decide +kernel
theorem dX12_defun_374 : decode cX12_defun 374 = .ok (.iinc 9 1, 3) := by decide +kernel
theorem dX12_defun_377 : decode cX12_defun 377 = .ok (.goto (-40), 3) := by decide +kernel
theorem dX12_defun_380 : decode cX12_defun 380 = .ok (.aload_n 0, 1) := by decide +kernel
theorem dX12_defun_381 : decode cX12_defun 381 = .ok (.getfield 87, 3) := by decide +kernel
theorem dX12_defun_384 : decode cX12_defun 384 = .ok (.aload_n 0, 1) := by decide +kernel
theorem dX12_defun_385 : decode cX12_defun 385 = .ok (.getfield 474, 3) := by decide +kernel
theorem dX12_defun_388 : decode cX12_defun 388 = .ok (.iload 5, 2) := by decide +kernel
theorem dX12_defun_390 : decode cX12_defun 390 = .ok (.iastore, 1) := by decide +kernel
theorem dX12_defun_391 : decode cX12_defun 391 = .ok (.aload_n 0, 1) := by decide +kernel
theorem dX12_defun_392 : decode cX12_defun 392 = .ok (.getfield 90, 3) := by decide +kernel
theorem dX12_defun_395 : decode cX12_defun 395 = .ok (.aload_n 0, 1) := by decide +kernel
theorem dX12_defun_396 : decode cX12_defun 396 = .ok (.getfield 474, 3) := by decide +kernel
theorem dX12_defun_399 : decode cX12_defun 399 = .ok (.iload 6, 2) := by decide +kernel
theorem dX12_defun_401 : decode cX12_defun 401 = .ok (.iastore, 1) := by decide +kernel
theorem dX12_defun_402 : decode cX12_defun 402 = .ok (.aload_n 0, 1) := by decide +kernel
theorem dX12_defun_403 : decode cX12_defun 403 = .ok (.getfield 93, 3) := by decide +kernel
theorem dX12_defun_406 : decode cX12_defun 406 = .ok (.aload_n 0, 1) := by decide +kernel
theorem dX12_defun_407 : decode cX12_defun 407 = .ok (.getfield 474, 3) := by decide +kernel
theorem dX12_defun_410 : decode cX12_defun 410 = .ok (.iload 7, 2) := by decide +kernel
theorem dX12_defun_412 : decode cX12_defun 412 = .ok (.bastore, 1) := by decide +kernel
theorem dX12_defun_413 : decode cX12_defun 413 = .ok (.aload_n 0, 1) := by decide +kernel
theorem dX12_defun_414 : decode cX12_defun 414 = .ok (.dup, 1) := by decide +kernel
theorem dX12_defun_415 : decode cX12_defun 415 = .ok (.getfield 474, 3) := by decide +kernel
theorem dX12_defun_418 : decode cX12_defun 418 = .ok (.iconst 1, 1) := by decide +kernel
theorem dX12_defun_419 : decode cX12_defun 419 = .ok (.iadd, 1) := by decide +kernel
theorem dX12_defun_420 : decode cX12_defun 420 = .ok (.putfield 474, 3) := by decide +kernel
theorem dX12_defun_423 : decode cX12_defun 423 = .ok (.aload_n 0, 1) := by decide +kernel
theorem dX12_defun_424 : decode cX12_defun 424 = .ok (.iconst 1, 1) := by decide +kernel
theorem dX12_defun_425 : decode cX12_defun 425 = .ok (.invokevirtual 842, 3) := by decide +kernel
theorem dX12_defun_428 : decode cX12_defun 428 = .ok (.iconst 0, 1) := by decide +kernel
theorem dX12_defun_429 : decode cX12_defun 429 = .ok (.ireturn, 1) := by decide +kernel

section
variable {p : Program} {l : Launch} {e : Env} {R : Room} {s : State} {m : MethodId} {args : Array Value} {below : List Frame} {meth : Method} {c : Code} {H : Heap} {locs : List Loc} {Qf : State → Prop}
variable {ls : Array Slot} {D : va_G} {ca : Nat → ClassId} {A : Nat → Prop} {h0 : Nat} {ad : Nat → Nat} {H0 : Heap} {u : iST}
def w_defun_337b (R337 : Int → Int → Int → Int → Int → iST → Prop) (Q : Int → iST → Prop) (x4 : Int) (x5 : Int) (x6 : Int) (x7 : Int) (x9 : Int) (u : iST) : Prop :=
  rd (u.1 35) (fun v22 => 
  bd v22 40 (rd (u.2.1 37 v22) (fun v23 => 
  br (v23 ≤ x9) (
    rd (u.1 35) (fun v24 => 
    bd v24 40 (sw (iA u 39 v24 x5) (fun u => 
    rd (u.1 35) (fun v25 => 
    bd v25 40 (sw (iA u 40 v25 x6) (fun u => 
    rd (u.1 35) (fun v26 => 
    zt x7 (bd v26 40 (sw (iA u 41 v26 x7) (fun u => 
    rd (u.1 35) (fun v27 => 
    ov (v27 + 1) (
    sw (iI u 35 (v27 + 1)) (fun u => 
    w_take 1 (fun u => 
    Q 0 u) u)))))))))))))) (
    rd (u.1 35) (fun v30 => 
    ov (6 * v30) (
    ov ((6 * v30) + x9) (
    w_nth x4 x9 (fun v33 u => 
    bd ((6 * v30) + x9) 240 (sw (iA u 38 ((6 * v30) + x9) v33) (fun u => 
    ov (x9 + 1) (
    R337 x4 x5 x6 x7 (x9 + 1) u)))) u)))))))
def w_defun_337 (Q : Int → iST → Prop) (x4 : Int) (x5 : Int) (x6 : Int) (x7 : Int) (x9 : Int) (u : iST) : Prop := ∀ R337 : Int → Int → Int → Int → Int → iST → Prop, (∀ (x4 : Int) (x5 : Int) (x6 : Int) (x7 : Int) (x9 : Int) (u : iST), w_defun_337b R337 Q x4 x5 x6 x7 x9 u → R337 x4 x5 x6 x7 x9 u) → R337 x4 x5 x6 x7 x9 u
set_option maxRecDepth 20000 in
set_option maxHeartbeats 4000000 in
theorem b_defun_337 (X : kX p m c cX12_defun 10 s args D ca) (hRf : 15 ≤ R.frames) (hRl : 351 ≤ R.locals) {Q : Int → iST → Prop} (hret : ∀ (v : Int) (u : iST) (H : Heap) (locs : List Loc) (ls : Array Slot) (pc : Nat), inR v → Q v u → kW D ca A h0 ad H0 H locs u → decode cX12_defun pc = .ok (.ireturn, 1) → W p l e R s m args below meth c H locs 0 0 Qf (F0 m pc ls [.int (jI v)])) {x4 x5 x6 x7 x9 : Int} (rx4 : inR x4) (rx5 : inR x5) (rx6 : inR x6) (rx7 : inR x7) (rx9 : inR x9) (hw : kW D ca A h0 ad H0 H locs u) (hl : lv_has ls 10 [(0, .ref h0), (4, .int (jI x4)), (5, .int (jI x5)), (6, .int (jI x6)), (7, .int (jI x7)), (9, .int (jI x9))]) (h : w_defun_337 Q x4 x5 x6 x7 x9 u) : W p l e R s m args below meth c H locs 0 0 Qf (F0 m 337 ls []) := by
  refine h (fun x4 x5 x6 x7 x9 u => ∀ (H : Heap) (locs : List Loc) (ls : Array Slot), inR x4 → inR x5 → inR x6 → inR x7 → inR x9 → kW D ca A h0 ad H0 H locs u → lv_has ls 10 [(0, .ref h0), (4, .int (jI x4)), (5, .int (jI x5)), (6, .int (jI x6)), (7, .int (jI x7)), (9, .int (jI x9))] → W p l e R s m args below meth c H locs 0 0 Qf (F0 m 337 ls [])) ?_ H locs ls rx4 rx5 rx6 rx7 rx9 hw hl
  clear h hl hw rx4 rx5 rx6 rx7 rx9
  intro x4 x5 x6 x7 x9 u h H locs ls rx4 rx5 rx6 rx7 rx9 hw hl
  have hR337 : ∀ (x4 : Int) (x5 : Int) (x6 : Int) (x7 : Int) (x9 : Int) (u : iST) (H : Heap) (locs : List Loc) (ls : Array Slot), inR x4 → inR x5 → inR x6 → inR x7 → inR x9 → kW D ca A h0 ad H0 H locs u → lv_has ls 10 [(0, .ref h0), (4, .int (jI x4)), (5, .int (jI x5)), (6, .int (jI x6)), (7, .int (jI x7)), (9, .int (jI x9))] → (fun (x4 : Int) (x5 : Int) (x6 : Int) (x7 : Int) (x9 : Int) u => ∀ (H : Heap) (locs : List Loc) (ls : Array Slot), inR x4 → inR x5 → inR x6 → inR x7 → inR x9 → kW D ca A h0 ad H0 H locs u → lv_has ls 10 [(0, .ref h0), (4, .int (jI x4)), (5, .int (jI x5)), (6, .int (jI x6)), (7, .int (jI x7)), (9, .int (jI x9))] → W p l e R s m args below meth c H locs 0 0 Qf (F0 m 337 ls [])) x4 x5 x6 x7 x9 u → W p l e R s m args below meth c H locs 0 0 Qf (F0 m 337 ls []) := fun x4 x5 x6 x7 x9 u H locs ls rx4 rx5 rx6 rx7 rx9 hw hl h => h H locs ls rx4 rx5 rx6 rx7 rx9 hw hl
  have hx := X.1.1
  have hb := X.1.2.1
  unfold w_defun_337b at h
  refine lv_iload hx hb dX12_defun_337 (lv_at hl 5 rfl) ?_
  refine lv_aload_n hx hb dX12_defun_339 rfl (lv_at hl 0 rfl) ?_
  refine gA 37 81 (by decide) L_37 (fun _ _ => mF_37) rfl X hw dX12_defun_340 ?_
  refine lv_aload_n hx hb dX12_defun_343 rfl (lv_at hl 0 rfl) ?_
  refine gS 35 474 (by decide) L_35 (fun _ _ => mF_35) rfl X hw dX12_defun_344 h (fun v22 rv22 h => ?_)
  refine aL 37 22 21 40 (fun _ _ _ _ => mG_37) (fun _ => rfl) X hw rv22 dX12_defun_347 rfl h (fun v23 rv23 h => ?_)
  refine k_icmp_ge hx hb rx9 rv23 dX12_defun_348 (tgt := 380) rfl h (fun h => ?_) (fun h => ?_)
  · refine lv_aload_n hx hb dX12_defun_380 rfl (lv_at hl 0 rfl) ?_
    refine gA 39 87 (by decide) L_39 (fun _ _ => mF_39) rfl X hw dX12_defun_381 ?_
    refine lv_aload_n hx hb dX12_defun_384 rfl (lv_at hl 0 rfl) ?_
    refine gS 35 474 (by decide) L_35 (fun _ _ => mF_35) rfl X hw dX12_defun_385 h (fun v24 rv24 h => ?_)
    refine lv_iload hx hb dX12_defun_388 (lv_at hl 2 rfl) ?_
    refine aS 39 24 23 40 (fun _ _ _ _ => mG_39) (fun _ => rfl) (fun _ _ _ _ _ _ => mSA_39) (by decide) X hw rv24 rx5 dX12_defun_390 rfl h (fun H locs u hw h => ?_)
    refine lv_aload_n hx hb dX12_defun_391 rfl (lv_at hl 0 rfl) ?_
    refine gA 40 90 (by decide) L_40 (fun _ _ => mF_40) rfl X hw dX12_defun_392 ?_
    refine lv_aload_n hx hb dX12_defun_395 rfl (lv_at hl 0 rfl) ?_
    refine gS 35 474 (by decide) L_35 (fun _ _ => mF_35) rfl X hw dX12_defun_396 h (fun v25 rv25 h => ?_)
    refine lv_iload hx hb dX12_defun_399 (lv_at hl 3 rfl) ?_
    refine aS 40 25 24 40 (fun _ _ _ _ => mG_40) (fun _ => rfl) (fun _ _ _ _ _ _ => mSA_40) (by decide) X hw rv25 rx6 dX12_defun_401 rfl h (fun H locs u hw h => ?_)
    refine lv_aload_n hx hb dX12_defun_402 rfl (lv_at hl 0 rfl) ?_
    refine gA 41 93 (by decide) L_41 (fun _ _ => mF_41) rfl X hw dX12_defun_403 ?_
    refine lv_aload_n hx hb dX12_defun_406 rfl (lv_at hl 0 rfl) ?_
    refine gS 35 474 (by decide) L_35 (fun _ _ => mF_35) rfl X hw dX12_defun_407 h (fun v26 rv26 h => ?_)
    refine lv_iload hx hb dX12_defun_410 (lv_at hl 4 rfl) ?_
    refine aY 41 26 25 40 (fun _ _ _ _ => mG_41) (fun _ => rfl) (fun _ _ _ _ _ _ => mSA_41) X hw rv26 dX12_defun_412 rfl h (fun H locs u hw h => ?_)
    refine lv_aload_n hx hb dX12_defun_413 rfl (lv_at hl 0 rfl) ?_
    refine lv_dup hx hb dX12_defun_414 rfl ?_
    refine gS 35 474 (by decide) L_35 (fun _ _ => mF_35) rfl X hw dX12_defun_415 h (fun v27 rv27 h => ?_)
    refine lv_iconst hx hb dX12_defun_418 (v := jI 1) rfl ?_
    refine k_iadd hx hb dX12_defun_419 h (fun r28 h => ?_)
    refine pS 35 474 (by decide) L_35 rfl rfl rfl (fun _ _ _ _ _ => mSI_35) (by decide) X hw r28 dX12_defun_420 h (fun H locs u hw h => ?_)
    refine lv_aload_n hx hb dX12_defun_423 rfl (lv_at hl 0 rfl) ?_
    refine lv_iconst hx hb dX12_defun_424 (v := jI 1) rfl ?_
    refine kcV (n := 1) (c_take (by decide) h) G_take E_take X hw (Nat.le_trans (Nat.le_of_ble_eq_true rfl) hRf) (Nat.le_trans (Nat.le_of_ble_eq_true rfl) hRl) rfl hl.1 (Nat.le_of_ble_eq_true rfl) rfl dX12_defun_425 (fun u H locs h hw => ?_)
    refine lv_iconst hx hb dX12_defun_428 (v := jI 0) rfl ?_
    exact hret _ _ _ _ _ _ (by decide) h hw dX12_defun_429
  · refine lv_aload_n hx hb dX12_defun_351 rfl (lv_at hl 0 rfl) ?_
    refine gA 38 84 (by decide) L_38 (fun _ _ => mF_38) rfl X hw dX12_defun_352 ?_
    refine lv_bipush hx hb dX12_defun_355 (v := jI 6) rfl ?_
    refine lv_aload_n hx hb dX12_defun_357 rfl (lv_at hl 0 rfl) ?_
    refine gS 35 474 (by decide) L_35 (fun _ _ => mF_35) rfl X hw dX12_defun_358 h (fun v30 rv30 h => ?_)
    refine k_imul hx hb dX12_defun_361 h (fun r31 h => ?_)
    refine lv_iload hx hb dX12_defun_362 (lv_at hl 5 rfl) ?_
    refine k_iadd hx hb dX12_defun_364 h (fun r32 h => ?_)
    refine lv_aload_n hx hb dX12_defun_365 rfl (lv_at hl 0 rfl) ?_
    refine lv_iload hx hb dX12_defun_366 (lv_at hl 1 rfl) ?_
    refine lv_iload hx hb dX12_defun_368 (lv_at hl 5 rfl) ?_
    refine kcI (n := 2) (c_nth rx4 rx9 h) G_nth E_nth X hw (Nat.le_trans (Nat.le_of_ble_eq_true rfl) hRf) (Nat.le_trans (Nat.le_of_ble_eq_true rfl) hRl) rfl hl.1 (Nat.le_of_ble_eq_true rfl) rfl dX12_defun_370 (fun v33 u H locs rv33 h hw => ?_)
    refine aS 38 23 22 240 (fun _ _ _ _ => mG_38) (fun _ => rfl) (fun _ _ _ _ _ _ => mSA_38) (by decide) X hw r32 rv33 dX12_defun_373 rfl h (fun H locs u hw h => ?_)
    refine k_iinc (k := 5) hx hb dX12_defun_374 hl rfl (by decide) rfl h (fun ls r34 h hl => ?_)
    have hl : lv_has ls 10 [(9, .int (jI (x9 + 1))), (0, .ref (h0)), (4, .int (jI x4)), (5, .int (jI x5)), (6, .int (jI x6)), (7, .int (jI x7))] := hl
    refine lv_goto hx hb dX12_defun_377 (tgt := 337) rfl ?_
    exact hR337 _ _ _ _ _ _ H locs ls rx4 rx5 rx6 rx7 r34 hw (lv_sub hl [1, 2, 3, 4, 5, 0] rfl) h

def w_defun_303 (Q : Int → iST → Prop) (x3 : Int) (x4 : Int) (x5 : Int) (x6 : Int) (x7 : Int) (x8 : Int) (u : iST) : Prop :=
  w_forget x8 (fun u => 
  rd (u.1 35) (fun v19 => 
  bd v19 40 (sw (iA u 36 v19 x3) (fun u => 
  rd (u.1 35) (fun v20 => 
  w_lengthOf x4 (fun v21 u => 
  bd v20 40 (sw (iA u 37 v20 v21) (fun u => 
  w_defun_337 Q x4 x5 x6 x7 0 u))) u))))) u
set_option maxRecDepth 20000 in
set_option maxHeartbeats 4000000 in
theorem b_defun_303 (X : kX p m c cX12_defun 10 s args D ca) (hRf : 15 ≤ R.frames) (hRl : 351 ≤ R.locals) {Q : Int → iST → Prop} (hret : ∀ (v : Int) (u : iST) (H : Heap) (locs : List Loc) (ls : Array Slot) (pc : Nat), inR v → Q v u → kW D ca A h0 ad H0 H locs u → decode cX12_defun pc = .ok (.ireturn, 1) → W p l e R s m args below meth c H locs 0 0 Qf (F0 m pc ls [.int (jI v)])) {x3 x4 x5 x6 x7 x8 : Int} (rx3 : inR x3) (rx4 : inR x4) (rx5 : inR x5) (rx6 : inR x6) (rx7 : inR x7) (rx8 : inR x8) (hw : kW D ca A h0 ad H0 H locs u) (hl : lv_has ls 10 [(0, .ref h0), (3, .int (jI x3)), (4, .int (jI x4)), (5, .int (jI x5)), (6, .int (jI x6)), (7, .int (jI x7)), (8, .int (jI x8))]) (h : w_defun_303 Q x3 x4 x5 x6 x7 x8 u) : W p l e R s m args below meth c H locs 0 0 Qf (F0 m 303 ls []) := by
  have hx := X.1.1
  have hb := X.1.2.1
  unfold w_defun_303 at h
  refine lv_aload_n hx hb dX12_defun_303 rfl (lv_at hl 0 rfl) ?_
  refine lv_iload hx hb dX12_defun_304 (lv_at hl 6 rfl) ?_
  refine kcV (n := 1) (c_forget rx8 h) G_forget E_forget X hw (Nat.le_trans (Nat.le_of_ble_eq_true rfl) hRf) (Nat.le_trans (Nat.le_of_ble_eq_true rfl) hRl) rfl hl.1 (Nat.le_of_ble_eq_true rfl) rfl dX12_defun_306 (fun u H locs h hw => ?_)
  refine lv_aload_n hx hb dX12_defun_309 rfl (lv_at hl 0 rfl) ?_
  refine gA 36 78 (by decide) L_36 (fun _ _ => mF_36) rfl X hw dX12_defun_310 ?_
  refine lv_aload_n hx hb dX12_defun_313 rfl (lv_at hl 0 rfl) ?_
  refine gS 35 474 (by decide) L_35 (fun _ _ => mF_35) rfl X hw dX12_defun_314 h (fun v19 rv19 h => ?_)
  refine lv_iload_n hx hb dX12_defun_317 rfl (lv_at hl 1 rfl) ?_
  refine aS 36 21 20 40 (fun _ _ _ _ => mG_36) (fun _ => rfl) (fun _ _ _ _ _ _ => mSA_36) (by decide) X hw rv19 rx3 dX12_defun_318 rfl h (fun H locs u hw h => ?_)
  refine lv_aload_n hx hb dX12_defun_319 rfl (lv_at hl 0 rfl) ?_
  refine gA 37 81 (by decide) L_37 (fun _ _ => mF_37) rfl X hw dX12_defun_320 ?_
  refine lv_aload_n hx hb dX12_defun_323 rfl (lv_at hl 0 rfl) ?_
  refine gS 35 474 (by decide) L_35 (fun _ _ => mF_35) rfl X hw dX12_defun_324 h (fun v20 rv20 h => ?_)
  refine lv_aload_n hx hb dX12_defun_327 rfl (lv_at hl 0 rfl) ?_
  refine lv_iload hx hb dX12_defun_328 (lv_at hl 2 rfl) ?_
  refine kcI (n := 1) (c_lengthOf rx4 h) G_lengthOf E_lengthOf X hw (Nat.le_trans (Nat.le_of_ble_eq_true rfl) hRf) (Nat.le_trans (Nat.le_of_ble_eq_true rfl) hRl) rfl hl.1 (Nat.le_of_ble_eq_true rfl) rfl dX12_defun_330 (fun v21 u H locs rv21 h hw => ?_)
  refine aS 37 22 21 40 (fun _ _ _ _ => mG_37) (fun _ => rfl) (fun _ _ _ _ _ _ => mSA_37) (by decide) X hw rv20 rv21 dX12_defun_333 rfl h (fun H locs u hw h => ?_)
  refine lv_iconst hx hb dX12_defun_334 (v := jI 0) rfl ?_
  refine lv_istore hx hb dX12_defun_335 hl (by decide) rfl (fun ls hl => ?_)
  have hl : lv_has ls 10 [(9, .int (jI 0)), (0, .ref (h0)), (3, .int (jI x3)), (4, .int (jI x4)), (5, .int (jI x5)), (6, .int (jI x6)), (7, .int (jI x7)), (8, .int (jI x8))] := hl
  exact b_defun_337 X hRf hRl hret rx4 rx5 rx6 rx7 (by decide) hw (lv_sub hl [1, 3, 4, 5, 6, 0] rfl) h

def w_defun_281 (Q : Int → iST → Prop) (x3 : Int) (x4 : Int) (x5 : Int) (x6 : Int) (x7 : Int) (x8 : Int) (y0 : Int) (u : iST) : Prop :=
  rd (u.1 61) (fun v37 => 
  br (v37 = 0) (
    br (y0 ≠ 0) (
      w_defun_303 Q x3 x4 x5 x6 x7 x8 u) (
      w_tellLeft (fun u => 
      Q 5 u) u)) (
    Q 4 u))
set_option maxRecDepth 20000 in
set_option maxHeartbeats 4000000 in
theorem b_defun_281 (X : kX p m c cX12_defun 10 s args D ca) (hRf : 15 ≤ R.frames) (hRl : 351 ≤ R.locals) {Q : Int → iST → Prop} (hret : ∀ (v : Int) (u : iST) (H : Heap) (locs : List Loc) (ls : Array Slot) (pc : Nat), inR v → Q v u → kW D ca A h0 ad H0 H locs u → decode cX12_defun pc = .ok (.ireturn, 1) → W p l e R s m args below meth c H locs 0 0 Qf (F0 m pc ls [.int (jI v)])) {x3 x4 x5 x6 x7 x8 y0 : Int} (rx3 : inR x3) (rx4 : inR x4) (rx5 : inR x5) (rx6 : inR x6) (rx7 : inR x7) (rx8 : inR x8) (ry0 : inR y0) (hw : kW D ca A h0 ad H0 H locs u) (hl : lv_has ls 10 [(0, .ref h0), (3, .int (jI x3)), (4, .int (jI x4)), (5, .int (jI x5)), (6, .int (jI x6)), (7, .int (jI x7)), (8, .int (jI x8))]) (h : w_defun_281 Q x3 x4 x5 x6 x7 x8 y0 u) : W p l e R s m args below meth c H locs 0 0 Qf (F0 m 281 ls [.int (jI y0)]) := by
  have hx := X.1.1
  have hb := X.1.2.1
  unfold w_defun_281 at h
  refine lv_istore hx hb dX12_defun_281 hl (by decide) rfl (fun ls hl => ?_)
  have hl : lv_has ls 10 [(9, .int (jI y0)), (0, .ref (h0)), (3, .int (jI x3)), (4, .int (jI x4)), (5, .int (jI x5)), (6, .int (jI x6)), (7, .int (jI x7)), (8, .int (jI x8))] := hl
  refine lv_aload_n hx hb dX12_defun_283 rfl (lv_at hl 1 rfl) ?_
  refine gS 61 480 (by decide) L_61 (fun _ _ => mF_61) rfl X hw dX12_defun_284 h (fun v37 rv37 h => ?_)
  refine k_if_eq hx hb rv37 dX12_defun_287 (tgt := 292) rfl h (fun h => ?_) (fun h => ?_)
  · refine lv_iload hx hb dX12_defun_292 (lv_at hl 0 rfl) ?_
    refine k_if_ne hx hb ry0 dX12_defun_294 (tgt := 303) rfl h (fun h => ?_) (fun h => ?_)
    · exact b_defun_303 X hRf hRl hret rx3 rx4 rx5 rx6 rx7 rx8 hw (lv_sub hl [1, 2, 3, 4, 5, 6, 7] rfl) h
    · refine lv_aload_n hx hb dX12_defun_297 rfl (lv_at hl 1 rfl) ?_
      refine kcV (n := 0) (c_tellLeft h) G_tellLeft E_tellLeft X hw (Nat.le_trans (Nat.le_of_ble_eq_true rfl) hRf) (Nat.le_trans (Nat.le_of_ble_eq_true rfl) hRl) rfl hl.1 (Nat.le_of_ble_eq_true rfl) rfl dX12_defun_298 (fun u H locs h hw => ?_)
      refine lv_iconst hx hb dX12_defun_301 (v := jI 5) rfl ?_
      exact hret _ _ _ _ _ _ (by decide) h hw dX12_defun_302
  · refine lv_iconst hx hb dX12_defun_290 (v := jI 4) rfl ?_
    exact hret _ _ _ _ _ _ (by decide) h hw dX12_defun_291

def w_defun_280 (Q : Int → iST → Prop) (x3 : Int) (x4 : Int) (x5 : Int) (x6 : Int) (x7 : Int) (x8 : Int) (u : iST) : Prop :=
  w_defun_281 Q x3 x4 x5 x6 x7 x8 0 u
set_option maxRecDepth 20000 in
set_option maxHeartbeats 4000000 in
theorem b_defun_280 (X : kX p m c cX12_defun 10 s args D ca) (hRf : 15 ≤ R.frames) (hRl : 351 ≤ R.locals) {Q : Int → iST → Prop} (hret : ∀ (v : Int) (u : iST) (H : Heap) (locs : List Loc) (ls : Array Slot) (pc : Nat), inR v → Q v u → kW D ca A h0 ad H0 H locs u → decode cX12_defun pc = .ok (.ireturn, 1) → W p l e R s m args below meth c H locs 0 0 Qf (F0 m pc ls [.int (jI v)])) {x3 x4 x5 x6 x7 x8 : Int} (rx3 : inR x3) (rx4 : inR x4) (rx5 : inR x5) (rx6 : inR x6) (rx7 : inR x7) (rx8 : inR x8) (hw : kW D ca A h0 ad H0 H locs u) (hl : lv_has ls 10 [(0, .ref h0), (3, .int (jI x3)), (4, .int (jI x4)), (5, .int (jI x5)), (6, .int (jI x6)), (7, .int (jI x7)), (8, .int (jI x8))]) (h : w_defun_280 Q x3 x4 x5 x6 x7 x8 u) : W p l e R s m args below meth c H locs 0 0 Qf (F0 m 280 ls []) := by
  have hx := X.1.1
  have hb := X.1.2.1
  unfold w_defun_280 at h
  refine lv_iconst hx hb dX12_defun_280 (v := jI 0) rfl ?_
  exact b_defun_281 X hRf hRl hret rx3 rx4 rx5 rx6 rx7 rx8 (by decide) hw hl h

def w_defun_198 (Q : Int → iST → Prop) (x3 : Int) (x4 : Int) (x5 : Int) (x6 : Int) (x7 : Int) (u : iST) : Prop :=
  rd (u.1 8) (fun v13 => 
  w_pathsOf x5 (fun u => 
  w_areApart x3 (fun v15 u => 
  br (v15 ≠ 0) (
    w_definition x3 (fun v16 u => 
    br (v16 = (-1)) (
      rd (u.1 35) (fun v17 => 
      br (v17 ≠ 40) (
        br (x7 = 0) (
          w_defun_303 Q x3 x4 x5 x6 x7 v13 u) (
          sw (iI u 117 0) (fun u => 
          w_measureRows x3 x4 x6 (fun u => 
          rd (u.1 61) (fun v36 => 
          br (v36 ≠ 0) (
            w_defun_280 Q x3 x4 x5 x6 x7 v13 u) (
            w_prove (fun v39 u => 
            br (v39 = 0) (
              w_defun_280 Q x3 x4 x5 x6 x7 v13 u) (
              w_defun_281 Q x3 x4 x5 x6 x7 v13 1 u)) u))) u))) (
        Q 8 u))) (
      Q 3 u)) u) (
    Q 2 u)) u) u)
set_option maxRecDepth 20000 in
set_option maxHeartbeats 4000000 in
theorem b_defun_198 (X : kX p m c cX12_defun 10 s args D ca) (hRf : 15 ≤ R.frames) (hRl : 351 ≤ R.locals) {Q : Int → iST → Prop} (hret : ∀ (v : Int) (u : iST) (H : Heap) (locs : List Loc) (ls : Array Slot) (pc : Nat), inR v → Q v u → kW D ca A h0 ad H0 H locs u → decode cX12_defun pc = .ok (.ireturn, 1) → W p l e R s m args below meth c H locs 0 0 Qf (F0 m pc ls [.int (jI v)])) {x3 x4 x5 x6 x7 : Int} (rx3 : inR x3) (rx4 : inR x4) (rx5 : inR x5) (rx6 : inR x6) (rx7 : inR x7) (hw : kW D ca A h0 ad H0 H locs u) (hl : lv_has ls 10 [(0, .ref h0), (3, .int (jI x3)), (4, .int (jI x4)), (5, .int (jI x5)), (6, .int (jI x6)), (7, .int (jI x7))]) (h : w_defun_198 Q x3 x4 x5 x6 x7 u) : W p l e R s m args below meth c H locs 0 0 Qf (F0 m 198 ls []) := by
  have hx := X.1.1
  have hb := X.1.2.1
  unfold w_defun_198 at h
  refine lv_aload_n hx hb dX12_defun_198 rfl (lv_at hl 0 rfl) ?_
  refine gS 8 332 (by decide) L_8 (fun _ _ => mF_8) rfl X hw dX12_defun_199 h (fun v13 rv13 h => ?_)
  refine lv_istore hx hb dX12_defun_202 hl (by decide) rfl (fun ls hl => ?_)
  have hl : lv_has ls 10 [(8, .int (jI v13)), (0, .ref (h0)), (3, .int (jI x3)), (4, .int (jI x4)), (5, .int (jI x5)), (6, .int (jI x6)), (7, .int (jI x7))] := hl
  refine lv_aload_n hx hb dX12_defun_204 rfl (lv_at hl 1 rfl) ?_
  refine lv_iload hx hb dX12_defun_205 (lv_at hl 4 rfl) ?_
  refine kcV (n := 1) (c_pathsOf rx5 h) G_pathsOf E_pathsOf X hw (Nat.le_trans (Nat.le_of_ble_eq_true rfl) hRf) (Nat.le_trans (Nat.le_of_ble_eq_true rfl) hRl) rfl hl.1 (Nat.le_of_ble_eq_true rfl) rfl dX12_defun_207 (fun u H locs h hw => ?_)
  refine lv_aload_n hx hb dX12_defun_210 rfl (lv_at hl 1 rfl) ?_
  refine lv_iload_n hx hb dX12_defun_211 rfl (lv_at hl 2 rfl) ?_
  refine kcI (n := 1) (c_areApart rx3 h) G_areApart E_areApart X hw (Nat.le_trans (Nat.le_of_ble_eq_true rfl) hRf) (Nat.le_trans (Nat.le_of_ble_eq_true rfl) hRl) rfl hl.1 (Nat.le_of_ble_eq_true rfl) rfl dX12_defun_212 (fun v15 u H locs rv15 h hw => ?_)
  refine k_if_ne hx hb rv15 dX12_defun_215 (tgt := 220) rfl h (fun h => ?_) (fun h => ?_)
  · refine lv_aload_n hx hb dX12_defun_220 rfl (lv_at hl 1 rfl) ?_
    refine lv_iload_n hx hb dX12_defun_221 rfl (lv_at hl 2 rfl) ?_
    refine kcI (n := 1) (c_definition rx3 h) G_definition E_definition X hw (Nat.le_trans (Nat.le_of_ble_eq_true rfl) hRf) (Nat.le_trans (Nat.le_of_ble_eq_true rfl) hRl) rfl hl.1 (Nat.le_of_ble_eq_true rfl) rfl dX12_defun_222 (fun v16 u H locs rv16 h hw => ?_)
    refine lv_iconst hx hb dX12_defun_225 (v := jI (-1)) rfl ?_
    refine k_icmp_eq hx hb rv16 (by decide) dX12_defun_226 (tgt := 231) rfl h (fun h => ?_) (fun h => ?_)
    · refine lv_aload_n hx hb dX12_defun_231 rfl (lv_at hl 1 rfl) ?_
      refine gS 35 474 (by decide) L_35 (fun _ _ => mF_35) rfl X hw dX12_defun_232 h (fun v17 rv17 h => ?_)
      refine lv_bipush hx hb dX12_defun_235 (v := jI 40) rfl ?_
      refine k_icmp_ne hx hb rv17 (by decide) dX12_defun_237 (tgt := 243) rfl h (fun h => ?_) (fun h => ?_)
      · refine lv_iload hx hb dX12_defun_243 (lv_at hl 6 rfl) ?_
        refine k_if_eq hx hb rx7 dX12_defun_245 (tgt := 303) rfl h (fun h => ?_) (fun h => ?_)
        · exact b_defun_303 X hRf hRl hret rx3 rx4 rx5 rx6 rx7 rv13 hw (lv_sub hl [1, 2, 3, 4, 5, 6, 0] rfl) h
        · refine lv_aload_n hx hb dX12_defun_248 rfl (lv_at hl 1 rfl) ?_
          refine lv_iconst hx hb dX12_defun_249 (v := jI 0) rfl ?_
          refine pS 117 733 (by decide) L_117 rfl rfl rfl (fun _ _ _ _ _ => mSI_117) (by decide) X hw (by decide) dX12_defun_250 h (fun H locs u hw h => ?_)
          refine lv_aload_n hx hb dX12_defun_253 rfl (lv_at hl 1 rfl) ?_
          refine lv_iload_n hx hb dX12_defun_254 rfl (lv_at hl 2 rfl) ?_
          refine lv_iload hx hb dX12_defun_255 (lv_at hl 3 rfl) ?_
          refine lv_iload hx hb dX12_defun_257 (lv_at hl 5 rfl) ?_
          refine kcV (n := 3) (c_measureRows rx3 rx4 rx6 h) G_measureRows E_measureRows X hw (Nat.le_trans (Nat.le_of_ble_eq_true rfl) hRf) (Nat.le_trans (Nat.le_of_ble_eq_true rfl) hRl) rfl hl.1 (Nat.le_of_ble_eq_true rfl) rfl dX12_defun_259 (fun u H locs h hw => ?_)
          refine lv_aload_n hx hb dX12_defun_262 rfl (lv_at hl 1 rfl) ?_
          refine gS 61 480 (by decide) L_61 (fun _ _ => mF_61) rfl X hw dX12_defun_263 h (fun v36 rv36 h => ?_)
          refine k_if_ne hx hb rv36 dX12_defun_266 (tgt := 280) rfl h (fun h => ?_) (fun h => ?_)
          · exact b_defun_280 X hRf hRl hret rx3 rx4 rx5 rx6 rx7 rv13 hw (lv_sub hl [1, 2, 3, 4, 5, 6, 0] rfl) h
          · refine lv_aload_n hx hb dX12_defun_269 rfl (lv_at hl 1 rfl) ?_
            refine kcI (n := 0) (c_prove h) G_prove E_prove X hw (Nat.le_trans (Nat.le_of_ble_eq_true rfl) hRf) (Nat.le_trans (Nat.le_of_ble_eq_true rfl) hRl) rfl hl.1 (Nat.le_of_ble_eq_true rfl) rfl dX12_defun_270 (fun v39 u H locs rv39 h hw => ?_)
            refine k_if_eq hx hb rv39 dX12_defun_273 (tgt := 280) rfl h (fun h => ?_) (fun h => ?_)
            · exact b_defun_280 X hRf hRl hret rx3 rx4 rx5 rx6 rx7 rv13 hw (lv_sub hl [1, 2, 3, 4, 5, 6, 0] rfl) h
            · refine lv_iconst hx hb dX12_defun_276 (v := jI 1) rfl ?_
              refine lv_goto hx hb dX12_defun_277 (tgt := 281) rfl ?_
              exact b_defun_281 X hRf hRl hret rx3 rx4 rx5 rx6 rx7 rv13 (by decide) hw (lv_sub hl [1, 2, 3, 4, 5, 6, 0] rfl) h
      · refine lv_bipush hx hb dX12_defun_240 (v := jI 8) rfl ?_
        exact hret _ _ _ _ _ _ (by decide) h hw dX12_defun_242
    · refine lv_iconst hx hb dX12_defun_229 (v := jI 3) rfl ?_
      exact hret _ _ _ _ _ _ (by decide) h hw dX12_defun_230
  · refine lv_iconst hx hb dX12_defun_218 (v := jI 2) rfl ?_
    exact hret _ _ _ _ _ _ (by decide) h hw dX12_defun_219

def w_defun_165 (Q : Int → iST → Prop) (x2 : Int) (x3 : Int) (x4 : Int) (x5 : Int) (x6 : Int) (x7 : Int) (y0 : Int) (y1 : Int) (u : iST) : Prop :=
  br (y0 = y1) (
    br (x2 ≠ 5) (
      w_defun_198 Q x3 x4 x5 x6 x7 u) (
      w_hasOnly x6 x4 (fun v40 u => 
      br (v40 = 0) (
        Q 2 u) (
        w_hasCall x6 x3 (fun v41 u => 
        br (v41 = 0) (
          w_defun_198 Q x3 x4 x5 x6 x7 u) (
          Q 2 u)) u)) u)) (
    Q 2 u)
set_option maxRecDepth 20000 in
set_option maxHeartbeats 4000000 in
theorem b_defun_165 (X : kX p m c cX12_defun 10 s args D ca) (hRf : 15 ≤ R.frames) (hRl : 351 ≤ R.locals) {Q : Int → iST → Prop} (hret : ∀ (v : Int) (u : iST) (H : Heap) (locs : List Loc) (ls : Array Slot) (pc : Nat), inR v → Q v u → kW D ca A h0 ad H0 H locs u → decode cX12_defun pc = .ok (.ireturn, 1) → W p l e R s m args below meth c H locs 0 0 Qf (F0 m pc ls [.int (jI v)])) {x2 x3 x4 x5 x6 x7 y0 y1 : Int} (rx2 : inR x2) (rx3 : inR x3) (rx4 : inR x4) (rx5 : inR x5) (rx6 : inR x6) (rx7 : inR x7) (ry0 : inR y0) (ry1 : inR y1) (hw : kW D ca A h0 ad H0 H locs u) (hl : lv_has ls 10 [(0, .ref h0), (2, .int (jI x2)), (3, .int (jI x3)), (4, .int (jI x4)), (5, .int (jI x5)), (6, .int (jI x6)), (7, .int (jI x7))]) (h : w_defun_165 Q x2 x3 x4 x5 x6 x7 y0 y1 u) : W p l e R s m args below meth c H locs 0 0 Qf (F0 m 165 ls [.int (jI y1), .int (jI y0)]) := by
  have hx := X.1.1
  have hb := X.1.2.1
  unfold w_defun_165 at h
  refine k_icmp_eq hx hb ry0 ry1 dX12_defun_165 (tgt := 170) rfl h (fun h => ?_) (fun h => ?_)
  · refine lv_iload_n hx hb dX12_defun_170 rfl (lv_at hl 1 rfl) ?_
    refine lv_iconst hx hb dX12_defun_171 (v := jI 5) rfl ?_
    refine k_icmp_ne hx hb rx2 (by decide) dX12_defun_172 (tgt := 198) rfl h (fun h => ?_) (fun h => ?_)
    · exact b_defun_198 X hRf hRl hret rx3 rx4 rx5 rx6 rx7 hw (lv_sub hl [0, 2, 3, 4, 5, 6] rfl) h
    · refine lv_aload_n hx hb dX12_defun_175 rfl (lv_at hl 0 rfl) ?_
      refine lv_iload hx hb dX12_defun_176 (lv_at hl 5 rfl) ?_
      refine lv_iload hx hb dX12_defun_178 (lv_at hl 3 rfl) ?_
      refine kcI (n := 2) (c_hasOnly rx6 rx4 h) G_hasOnly E_hasOnly X hw (Nat.le_trans (Nat.le_of_ble_eq_true rfl) hRf) (Nat.le_trans (Nat.le_of_ble_eq_true rfl) hRl) rfl hl.1 (Nat.le_of_ble_eq_true rfl) rfl dX12_defun_180 (fun v40 u H locs rv40 h hw => ?_)
      refine k_if_eq hx hb rv40 dX12_defun_183 (tgt := 196) rfl h (fun h => ?_) (fun h => ?_)
      · refine lv_iconst hx hb dX12_defun_196 (v := jI 2) rfl ?_
        exact hret _ _ _ _ _ _ (by decide) h hw dX12_defun_197
      · refine lv_aload_n hx hb dX12_defun_186 rfl (lv_at hl 0 rfl) ?_
        refine lv_iload hx hb dX12_defun_187 (lv_at hl 5 rfl) ?_
        refine lv_iload_n hx hb dX12_defun_189 rfl (lv_at hl 2 rfl) ?_
        refine kcI (n := 2) (c_hasCall rx6 rx3 h) G_hasCall E_hasCall X hw (Nat.le_trans (Nat.le_of_ble_eq_true rfl) hRf) (Nat.le_trans (Nat.le_of_ble_eq_true rfl) hRl) rfl hl.1 (Nat.le_of_ble_eq_true rfl) rfl dX12_defun_190 (fun v41 u H locs rv41 h hw => ?_)
        refine k_if_eq hx hb rv41 dX12_defun_193 (tgt := 198) rfl h (fun h => ?_) (fun h => ?_)
        · exact b_defun_198 X hRf hRl hret rx3 rx4 rx5 rx6 rx7 hw (lv_sub hl [0, 2, 3, 4, 5, 6] rfl) h
        · refine lv_iconst hx hb dX12_defun_196 (v := jI 2) rfl ?_
          exact hret _ _ _ _ _ _ (by decide) h hw dX12_defun_197
  · refine lv_iconst hx hb dX12_defun_168 (v := jI 2) rfl ?_
    exact hret _ _ _ _ _ _ (by decide) h hw dX12_defun_169

def w_defun_131 (Q : Int → iST → Prop) (x2 : Int) (x3 : Int) (x4 : Int) (x5 : Int) (x6 : Int) (u : iST) : Prop :=
  w_hasOnly x5 x4 (fun v11 u => 
  br (v11 ≠ 0) (
    w_hasCall x5 x3 (fun v12 u => 
    br (x2 ≠ 5) (
      w_defun_165 Q x2 x3 x4 x5 x6 v12 v12 0 u) (
      w_defun_165 Q x2 x3 x4 x5 x6 v12 v12 1 u)) u) (
    Q 2 u)) u
set_option maxRecDepth 20000 in
set_option maxHeartbeats 4000000 in
theorem b_defun_131 (X : kX p m c cX12_defun 10 s args D ca) (hRf : 15 ≤ R.frames) (hRl : 351 ≤ R.locals) {Q : Int → iST → Prop} (hret : ∀ (v : Int) (u : iST) (H : Heap) (locs : List Loc) (ls : Array Slot) (pc : Nat), inR v → Q v u → kW D ca A h0 ad H0 H locs u → decode cX12_defun pc = .ok (.ireturn, 1) → W p l e R s m args below meth c H locs 0 0 Qf (F0 m pc ls [.int (jI v)])) {x2 x3 x4 x5 x6 : Int} (rx2 : inR x2) (rx3 : inR x3) (rx4 : inR x4) (rx5 : inR x5) (rx6 : inR x6) (hw : kW D ca A h0 ad H0 H locs u) (hl : lv_has ls 10 [(0, .ref h0), (2, .int (jI x2)), (3, .int (jI x3)), (4, .int (jI x4)), (5, .int (jI x5)), (6, .int (jI x6))]) (h : w_defun_131 Q x2 x3 x4 x5 x6 u) : W p l e R s m args below meth c H locs 0 0 Qf (F0 m 131 ls []) := by
  have hx := X.1.1
  have hb := X.1.2.1
  unfold w_defun_131 at h
  refine lv_aload_n hx hb dX12_defun_131 rfl (lv_at hl 0 rfl) ?_
  refine lv_iload hx hb dX12_defun_132 (lv_at hl 4 rfl) ?_
  refine lv_iload hx hb dX12_defun_134 (lv_at hl 3 rfl) ?_
  refine kcI (n := 2) (c_hasOnly rx5 rx4 h) G_hasOnly E_hasOnly X hw (Nat.le_trans (Nat.le_of_ble_eq_true rfl) hRf) (Nat.le_trans (Nat.le_of_ble_eq_true rfl) hRl) rfl hl.1 (Nat.le_of_ble_eq_true rfl) rfl dX12_defun_136 (fun v11 u H locs rv11 h hw => ?_)
  refine k_if_ne hx hb rv11 dX12_defun_139 (tgt := 144) rfl h (fun h => ?_) (fun h => ?_)
  · refine lv_aload_n hx hb dX12_defun_144 rfl (lv_at hl 0 rfl) ?_
    refine lv_iload hx hb dX12_defun_145 (lv_at hl 4 rfl) ?_
    refine lv_iload_n hx hb dX12_defun_147 rfl (lv_at hl 2 rfl) ?_
    refine kcI (n := 2) (c_hasCall rx5 rx3 h) G_hasCall E_hasCall X hw (Nat.le_trans (Nat.le_of_ble_eq_true rfl) hRf) (Nat.le_trans (Nat.le_of_ble_eq_true rfl) hRl) rfl hl.1 (Nat.le_of_ble_eq_true rfl) rfl dX12_defun_148 (fun v12 u H locs rv12 h hw => ?_)
    refine lv_istore hx hb dX12_defun_151 hl (by decide) rfl (fun ls hl => ?_)
    have hl : lv_has ls 10 [(7, .int (jI v12)), (0, .ref (h0)), (2, .int (jI x2)), (3, .int (jI x3)), (4, .int (jI x4)), (5, .int (jI x5)), (6, .int (jI x6))] := hl
    refine lv_iload hx hb dX12_defun_153 (lv_at hl 0 rfl) ?_
    refine lv_iload_n hx hb dX12_defun_155 rfl (lv_at hl 2 rfl) ?_
    refine lv_iconst hx hb dX12_defun_156 (v := jI 5) rfl ?_
    refine k_icmp_ne hx hb rx2 (by decide) dX12_defun_157 (tgt := 164) rfl h (fun h => ?_) (fun h => ?_)
    · refine lv_iconst hx hb dX12_defun_164 (v := jI 0) rfl ?_
      exact b_defun_165 X hRf hRl hret rx2 rx3 rx4 rx5 rx6 rv12 rv12 (by decide) hw (lv_sub hl [1, 2, 3, 4, 5, 6, 0] rfl) h
    · refine lv_iconst hx hb dX12_defun_160 (v := jI 1) rfl ?_
      refine lv_goto hx hb dX12_defun_161 (tgt := 165) rfl ?_
      exact b_defun_165 X hRf hRl hret rx2 rx3 rx4 rx5 rx6 rv12 rv12 (by decide) hw (lv_sub hl [1, 2, 3, 4, 5, 6, 0] rfl) h
  · refine lv_iconst hx hb dX12_defun_142 (v := jI 2) rfl ?_
    exact hret _ _ _ _ _ _ (by decide) h hw dX12_defun_143

def w_defun_107 (Q : Int → iST → Prop) (x2 : Int) (x3 : Int) (x4 : Int) (x5 : Int) (y0 : Int) (u : iST) : Prop :=
  sw (iI u 57 (-1)) (fun u => 
  br (x5 = (-1)) (
    Q 2 u) (
    br (x2 ≠ 5) (
      w_defun_131 Q x2 x3 x4 x5 y0 u) (
      br (y0 = (-1)) (
        Q 2 u) (
        w_defun_131 Q x2 x3 x4 x5 y0 u))))
set_option maxRecDepth 20000 in
set_option maxHeartbeats 4000000 in
theorem b_defun_107 (X : kX p m c cX12_defun 10 s args D ca) (hRf : 15 ≤ R.frames) (hRl : 351 ≤ R.locals) {Q : Int → iST → Prop} (hret : ∀ (v : Int) (u : iST) (H : Heap) (locs : List Loc) (ls : Array Slot) (pc : Nat), inR v → Q v u → kW D ca A h0 ad H0 H locs u → decode cX12_defun pc = .ok (.ireturn, 1) → W p l e R s m args below meth c H locs 0 0 Qf (F0 m pc ls [.int (jI v)])) {x2 x3 x4 x5 y0 : Int} (rx2 : inR x2) (rx3 : inR x3) (rx4 : inR x4) (rx5 : inR x5) (ry0 : inR y0) (hw : kW D ca A h0 ad H0 H locs u) (hl : lv_has ls 10 [(0, .ref h0), (2, .int (jI x2)), (3, .int (jI x3)), (4, .int (jI x4)), (5, .int (jI x5))]) (h : w_defun_107 Q x2 x3 x4 x5 y0 u) : W p l e R s m args below meth c H locs 0 0 Qf (F0 m 107 ls [.int (jI y0)]) := by
  have hx := X.1.1
  have hb := X.1.2.1
  unfold w_defun_107 at h
  refine lv_istore hx hb dX12_defun_107 hl (by decide) rfl (fun ls hl => ?_)
  have hl : lv_has ls 10 [(6, .int (jI y0)), (0, .ref (h0)), (2, .int (jI x2)), (3, .int (jI x3)), (4, .int (jI x4)), (5, .int (jI x5))] := hl
  refine lv_aload_n hx hb dX12_defun_109 rfl (lv_at hl 1 rfl) ?_
  refine lv_iconst hx hb dX12_defun_110 (v := jI (-1)) rfl ?_
  refine pS 57 136 (by decide) L_57 rfl rfl rfl (fun _ _ _ _ _ => mSI_57) (by decide) X hw (by decide) dX12_defun_111 h (fun H locs u hw h => ?_)
  refine lv_iload hx hb dX12_defun_114 (lv_at hl 5 rfl) ?_
  refine lv_iconst hx hb dX12_defun_116 (v := jI (-1)) rfl ?_
  refine k_icmp_eq hx hb rx5 (by decide) dX12_defun_117 (tgt := 142) rfl h (fun h => ?_) (fun h => ?_)
  · refine lv_iconst hx hb dX12_defun_142 (v := jI 2) rfl ?_
    exact hret _ _ _ _ _ _ (by decide) h hw dX12_defun_143
  · refine lv_iload_n hx hb dX12_defun_120 rfl (lv_at hl 2 rfl) ?_
    refine lv_iconst hx hb dX12_defun_121 (v := jI 5) rfl ?_
    refine k_icmp_ne hx hb rx2 (by decide) dX12_defun_122 (tgt := 131) rfl h (fun h => ?_) (fun h => ?_)
    · exact b_defun_131 X hRf hRl hret rx2 rx3 rx4 rx5 ry0 hw (lv_sub hl [1, 2, 3, 4, 5, 0] rfl) h
    · refine lv_iload hx hb dX12_defun_125 (lv_at hl 0 rfl) ?_
      refine lv_iconst hx hb dX12_defun_127 (v := jI (-1)) rfl ?_
      refine k_icmp_eq hx hb ry0 (by decide) dX12_defun_128 (tgt := 142) rfl h (fun h => ?_) (fun h => ?_)
      · refine lv_iconst hx hb dX12_defun_142 (v := jI 2) rfl ?_
        exact hret _ _ _ _ _ _ (by decide) h hw dX12_defun_143
      · exact b_defun_131 X hRf hRl hret rx2 rx3 rx4 rx5 ry0 hw (lv_sub hl [1, 2, 3, 4, 5, 0] rfl) h

def w_defun_16 (Q : Int → iST → Prop) (x1 : Int) (x2 : Int) (u : iST) : Prop :=
  w_nth x1 1 (fun v2 u => 
  w_isNewName v2 (fun v3 u => 
  br (v3 = 0) (
    Q 2 u) (
    w_nth x1 2 (fun v4 u => 
    w_areVariables v4 6 (fun v5 u => 
    br (v5 ≠ 0) (
      w_nth x1 1 (fun v6 u => 
      w_nth x1 2 (fun v7 u => 
      sw (iI u 57 v6) (fun u => 
      w_lengthOf v7 (fun v8 u => 
      sw (iI u 58 v8) (fun u => 
      w_nth x1 3 (fun v9 u => 
      w_termOf v9 (fun v10 u => 
      br (x2 ≠ 5) (
        w_defun_107 Q x2 v6 v7 v10 (-1) u) (
        w_nth x1 4 (fun v42 u => 
        w_termOf v42 (fun v43 u => 
        w_defun_107 Q x2 v6 v7 v10 v43 u) u) u)) u) u)) u)) u) u) (
      Q 2 u)) u) u)) u) u
set_option maxRecDepth 20000 in
set_option maxHeartbeats 4000000 in
theorem b_defun_16 (X : kX p m c cX12_defun 10 s args D ca) (hRf : 15 ≤ R.frames) (hRl : 351 ≤ R.locals) {Q : Int → iST → Prop} (hret : ∀ (v : Int) (u : iST) (H : Heap) (locs : List Loc) (ls : Array Slot) (pc : Nat), inR v → Q v u → kW D ca A h0 ad H0 H locs u → decode cX12_defun pc = .ok (.ireturn, 1) → W p l e R s m args below meth c H locs 0 0 Qf (F0 m pc ls [.int (jI v)])) {x1 x2 : Int} (rx1 : inR x1) (rx2 : inR x2) (hw : kW D ca A h0 ad H0 H locs u) (hl : lv_has ls 10 [(0, .ref h0), (1, .int (jI x1)), (2, .int (jI x2))]) (h : w_defun_16 Q x1 x2 u) : W p l e R s m args below meth c H locs 0 0 Qf (F0 m 16 ls []) := by
  have hx := X.1.1
  have hb := X.1.2.1
  unfold w_defun_16 at h
  refine lv_aload_n hx hb dX12_defun_16 rfl (lv_at hl 0 rfl) ?_
  refine lv_aload_n hx hb dX12_defun_17 rfl (lv_at hl 0 rfl) ?_
  refine lv_iload_n hx hb dX12_defun_18 rfl (lv_at hl 1 rfl) ?_
  refine lv_iconst hx hb dX12_defun_19 (v := jI 1) rfl ?_
  refine kcI (n := 2) (c_nth rx1 (by decide) h) G_nth E_nth X hw (Nat.le_trans (Nat.le_of_ble_eq_true rfl) hRf) (Nat.le_trans (Nat.le_of_ble_eq_true rfl) hRl) rfl hl.1 (Nat.le_of_ble_eq_true rfl) rfl dX12_defun_20 (fun v2 u H locs rv2 h hw => ?_)
  refine kcI (n := 1) (c_isNewName rv2 h) G_isNewName E_isNewName X hw (Nat.le_trans (Nat.le_of_ble_eq_true rfl) hRf) (Nat.le_trans (Nat.le_of_ble_eq_true rfl) hRl) rfl hl.1 (Nat.le_of_ble_eq_true rfl) rfl dX12_defun_23 (fun v3 u H locs rv3 h hw => ?_)
  refine k_if_eq hx hb rv3 dX12_defun_26 (tgt := 44) rfl h (fun h => ?_) (fun h => ?_)
  · refine lv_iconst hx hb dX12_defun_44 (v := jI 2) rfl ?_
    exact hret _ _ _ _ _ _ (by decide) h hw dX12_defun_45
  · refine lv_aload_n hx hb dX12_defun_29 rfl (lv_at hl 0 rfl) ?_
    refine lv_aload_n hx hb dX12_defun_30 rfl (lv_at hl 0 rfl) ?_
    refine lv_iload_n hx hb dX12_defun_31 rfl (lv_at hl 1 rfl) ?_
    refine lv_iconst hx hb dX12_defun_32 (v := jI 2) rfl ?_
    refine kcI (n := 2) (c_nth rx1 (by decide) h) G_nth E_nth X hw (Nat.le_trans (Nat.le_of_ble_eq_true rfl) hRf) (Nat.le_trans (Nat.le_of_ble_eq_true rfl) hRl) rfl hl.1 (Nat.le_of_ble_eq_true rfl) rfl dX12_defun_33 (fun v4 u H locs rv4 h hw => ?_)
    refine lv_bipush hx hb dX12_defun_36 (v := jI 6) rfl ?_
    refine kcI (n := 2) (c_areVariables rv4 (by decide) h) G_areVariables E_areVariables X hw (Nat.le_trans (Nat.le_of_ble_eq_true rfl) hRf) (Nat.le_trans (Nat.le_of_ble_eq_true rfl) hRl) rfl hl.1 (Nat.le_of_ble_eq_true rfl) rfl dX12_defun_38 (fun v5 u H locs rv5 h hw => ?_)
    refine k_if_ne hx hb rv5 dX12_defun_41 (tgt := 46) rfl h (fun h => ?_) (fun h => ?_)
    · refine lv_aload_n hx hb dX12_defun_46 rfl (lv_at hl 0 rfl) ?_
      refine lv_iload_n hx hb dX12_defun_47 rfl (lv_at hl 1 rfl) ?_
      refine lv_iconst hx hb dX12_defun_48 (v := jI 1) rfl ?_
      refine kcI (n := 2) (c_nth rx1 (by decide) h) G_nth E_nth X hw (Nat.le_trans (Nat.le_of_ble_eq_true rfl) hRf) (Nat.le_trans (Nat.le_of_ble_eq_true rfl) hRl) rfl hl.1 (Nat.le_of_ble_eq_true rfl) rfl dX12_defun_49 (fun v6 u H locs rv6 h hw => ?_)
      refine lv_istore_n hx hb dX12_defun_52 rfl hl (by decide) rfl (fun ls hl => ?_)
      have hl : lv_has ls 10 [(3, .int (jI v6)), (0, .ref (h0)), (1, .int (jI x1)), (2, .int (jI x2))] := hl
      refine lv_aload_n hx hb dX12_defun_53 rfl (lv_at hl 1 rfl) ?_
      refine lv_iload_n hx hb dX12_defun_54 rfl (lv_at hl 2 rfl) ?_
      refine lv_iconst hx hb dX12_defun_55 (v := jI 2) rfl ?_
      refine kcI (n := 2) (c_nth rx1 (by decide) h) G_nth E_nth X hw (Nat.le_trans (Nat.le_of_ble_eq_true rfl) hRf) (Nat.le_trans (Nat.le_of_ble_eq_true rfl) hRl) rfl hl.1 (Nat.le_of_ble_eq_true rfl) rfl dX12_defun_56 (fun v7 u H locs rv7 h hw => ?_)
      refine lv_istore hx hb dX12_defun_59 hl (by decide) rfl (fun ls hl => ?_)
      have hl : lv_has ls 10 [(4, .int (jI v7)), (3, .int (jI v6)), (0, .ref (h0)), (1, .int (jI x1)), (2, .int (jI x2))] := hl
      refine lv_aload_n hx hb dX12_defun_61 rfl (lv_at hl 2 rfl) ?_
      refine lv_iload_n hx hb dX12_defun_62 rfl (lv_at hl 1 rfl) ?_
      refine pS 57 136 (by decide) L_57 rfl rfl rfl (fun _ _ _ _ _ => mSI_57) (by decide) X hw rv6 dX12_defun_63 h (fun H locs u hw h => ?_)
      refine lv_aload_n hx hb dX12_defun_66 rfl (lv_at hl 2 rfl) ?_
      refine lv_aload_n hx hb dX12_defun_67 rfl (lv_at hl 2 rfl) ?_
      refine lv_iload hx hb dX12_defun_68 (lv_at hl 0 rfl) ?_
      refine kcI (n := 1) (c_lengthOf rv7 h) G_lengthOf E_lengthOf X hw (Nat.le_trans (Nat.le_of_ble_eq_true rfl) hRf) (Nat.le_trans (Nat.le_of_ble_eq_true rfl) hRl) rfl hl.1 (Nat.le_of_ble_eq_true rfl) rfl dX12_defun_70 (fun v8 u H locs rv8 h hw => ?_)
      refine pS 58 477 (by decide) L_58 rfl rfl rfl (fun _ _ _ _ _ => mSI_58) (by decide) X hw rv8 dX12_defun_73 h (fun H locs u hw h => ?_)
      refine lv_aload_n hx hb dX12_defun_76 rfl (lv_at hl 2 rfl) ?_
      refine lv_aload_n hx hb dX12_defun_77 rfl (lv_at hl 2 rfl) ?_
      refine lv_iload_n hx hb dX12_defun_78 rfl (lv_at hl 3 rfl) ?_
      refine lv_iconst hx hb dX12_defun_79 (v := jI 3) rfl ?_
      refine kcI (n := 2) (c_nth rx1 (by decide) h) G_nth E_nth X hw (Nat.le_trans (Nat.le_of_ble_eq_true rfl) hRf) (Nat.le_trans (Nat.le_of_ble_eq_true rfl) hRl) rfl hl.1 (Nat.le_of_ble_eq_true rfl) rfl dX12_defun_80 (fun v9 u H locs rv9 h hw => ?_)
      refine kcI (n := 1) (c_termOf rv9 h) G_termOf E_termOf X hw (Nat.le_trans (Nat.le_of_ble_eq_true rfl) hRf) (Nat.le_trans (Nat.le_of_ble_eq_true rfl) hRl) rfl hl.1 (Nat.le_of_ble_eq_true rfl) rfl dX12_defun_83 (fun v10 u H locs rv10 h hw => ?_)
      refine lv_istore hx hb dX12_defun_86 hl (by decide) rfl (fun ls hl => ?_)
      have hl : lv_has ls 10 [(5, .int (jI v10)), (4, .int (jI v7)), (3, .int (jI v6)), (0, .ref (h0)), (1, .int (jI x1)), (2, .int (jI x2))] := hl
      refine lv_iload_n hx hb dX12_defun_88 rfl (lv_at hl 5 rfl) ?_
      refine lv_iconst hx hb dX12_defun_89 (v := jI 5) rfl ?_
      refine k_icmp_ne hx hb rx2 (by decide) dX12_defun_90 (tgt := 106) rfl h (fun h => ?_) (fun h => ?_)
      · refine lv_iconst hx hb dX12_defun_106 (v := jI (-1)) rfl ?_
        exact b_defun_107 X hRf hRl hret rx2 rv6 rv7 rv10 (by decide) hw (lv_sub hl [3, 5, 2, 1, 0] rfl) h
      · refine lv_aload_n hx hb dX12_defun_93 rfl (lv_at hl 3 rfl) ?_
        refine lv_aload_n hx hb dX12_defun_94 rfl (lv_at hl 3 rfl) ?_
        refine lv_iload_n hx hb dX12_defun_95 rfl (lv_at hl 4 rfl) ?_
        refine lv_iconst hx hb dX12_defun_96 (v := jI 4) rfl ?_
        refine kcI (n := 2) (c_nth rx1 (by decide) h) G_nth E_nth X hw (Nat.le_trans (Nat.le_of_ble_eq_true rfl) hRf) (Nat.le_trans (Nat.le_of_ble_eq_true rfl) hRl) rfl hl.1 (Nat.le_of_ble_eq_true rfl) rfl dX12_defun_97 (fun v42 u H locs rv42 h hw => ?_)
        refine kcI (n := 1) (c_termOf rv42 h) G_termOf E_termOf X hw (Nat.le_trans (Nat.le_of_ble_eq_true rfl) hRf) (Nat.le_trans (Nat.le_of_ble_eq_true rfl) hRl) rfl hl.1 (Nat.le_of_ble_eq_true rfl) rfl dX12_defun_100 (fun v43 u H locs rv43 h hw => ?_)
        refine lv_goto hx hb dX12_defun_103 (tgt := 107) rfl ?_
        exact b_defun_107 X hRf hRl hret rx2 rv6 rv7 rv10 rv43 hw (lv_sub hl [3, 5, 2, 1, 0] rfl) h
    · refine lv_iconst hx hb dX12_defun_44 (v := jI 2) rfl ?_
      exact hret _ _ _ _ _ _ (by decide) h hw dX12_defun_45

def w_defun (a0 : Int) (Q : Int → iST → Prop) (u : iST) : Prop :=
  w_lengthOf a0 (fun v1 u => 
  br (v1 = 4) (
    w_defun_16 Q a0 v1 u) (
    br (v1 ≠ 5) (
      Q 2 u) (
      w_defun_16 Q a0 v1 u))) u
set_option maxRecDepth 20000 in
set_option maxHeartbeats 4000000 in
theorem b_defun_s (X : kX p m c cX12_defun 10 s args D ca) (hRf : 15 ≤ R.frames) (hRl : 351 ≤ R.locals) {Q : Int → iST → Prop} (hret : ∀ (v : Int) (u : iST) (H : Heap) (locs : List Loc) (ls : Array Slot) (pc : Nat), inR v → Q v u → kW D ca A h0 ad H0 H locs u → decode cX12_defun pc = .ok (.ireturn, 1) → W p l e R s m args below meth c H locs 0 0 Qf (F0 m pc ls [.int (jI v)])) {a0 : Int} (ra0 : inR a0) (hw : kW D ca A h0 ad H0 H locs u) (hl : lv_has ls 10 [(0, .ref h0), (1, .int (jI a0))]) (h : w_defun a0 Q u) : W p l e R s m args below meth c H locs 0 0 Qf (F0 m 0 ls []) := by
  have hx := X.1.1
  have hb := X.1.2.1
  unfold w_defun at h
  refine lv_aload_n hx hb dX12_defun_0 rfl (lv_at hl 0 rfl) ?_
  refine lv_iload_n hx hb dX12_defun_1 rfl (lv_at hl 1 rfl) ?_
  refine kcI (n := 1) (c_lengthOf ra0 h) G_lengthOf E_lengthOf X hw (Nat.le_trans (Nat.le_of_ble_eq_true rfl) hRf) (Nat.le_trans (Nat.le_of_ble_eq_true rfl) hRl) rfl hl.1 (Nat.le_of_ble_eq_true rfl) rfl dX12_defun_2 (fun v1 u H locs rv1 h hw => ?_)
  refine lv_istore_n hx hb dX12_defun_5 rfl hl (by decide) rfl (fun ls hl => ?_)
  have hl : lv_has ls 10 [(2, .int (jI v1)), (0, .ref (h0)), (1, .int (jI a0))] := hl
  refine lv_iload_n hx hb dX12_defun_6 rfl (lv_at hl 0 rfl) ?_
  refine lv_iconst hx hb dX12_defun_7 (v := jI 4) rfl ?_
  refine k_icmp_eq hx hb rv1 (by decide) dX12_defun_8 (tgt := 16) rfl h (fun h => ?_) (fun h => ?_)
  · exact b_defun_16 X hRf hRl hret ra0 rv1 hw (lv_sub hl [1, 2, 0] rfl) h
  · refine lv_iload_n hx hb dX12_defun_11 rfl (lv_at hl 0 rfl) ?_
    refine lv_iconst hx hb dX12_defun_12 (v := jI 5) rfl ?_
    refine k_icmp_ne hx hb rv1 (by decide) dX12_defun_13 (tgt := 44) rfl h (fun h => ?_) (fun h => ?_)
    · refine lv_iconst hx hb dX12_defun_44 (v := jI 2) rfl ?_
      exact hret _ _ _ _ _ _ (by decide) h hw dX12_defun_45
    · exact b_defun_16 X hRf hRl hret ra0 rv1 hw (lv_sub hl [1, 2, 0] rfl) h

end
theorem c_defun {l : Launch} {a0 : Int} (ra0 : inR a0) {Q : Int → iST → Prop} {u : iST} (h : w_defun a0 Q u) : kMI l yX12_defun (.code yX12_defun cX12_defun 10 (some .int) :: wsM) { frames := 15, cells := 0, slots := 0, locals := 351 } [.int (jI a0)] Q u := kMI_of rfl (fun _ => Nat.le_of_ble_eq_true rfl) (fun X hRf hRl hret hw hl => b_defun_s X hRf hRl hret ra0 hw hl h)
