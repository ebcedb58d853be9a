/-! isPair -/
theorem dX12_isPair_0 : decode cX12_isPair 0 = .ok (.aload_n 0, 1) := by decide +kernel
theorem dX12_isPair_1 : decode cX12_isPair 1 = .ok (.getfield 8, 3) := by decide +kernel
theorem dX12_isPair_4 : decode cX12_isPair 4 = .ok (.iload_n 1, 1) := by decide +kernel
theorem dX12_isPair_5 : decode cX12_isPair 5 = .ok (.iaload, 1) := by decide +kernel
theorem dX12_isPair_6 : decode cX12_isPair 6 = .ok (.ifCond .lt 7, 3) := by decide +kernel
theorem dX12_isPair_9 : decode cX12_isPair 9 = .ok (.iconst 1, 1) := by decide +kernel
theorem dX12_isPair_10 : decode cX12_isPair 10 = .ok (.goto 4, 3) := by decide +kernel
theorem dX12_isPair_13 : decode cX12_isPair 13 = .ok (.iconst 0, 1) := by decide +kernel
theorem dX12_isPair_14 : decode cX12_isPair 14 = .ok (.ireturn, 1) := by decide +kernel

section
variable {p : Program} {l : Launch} {e : Env} {R : Room} {s : State} {m : MethodId} {args : Array Value} {below : List Frame} {meth : Method} {c : Code} {H : Heap} {locs : List Loc} {Qf : State → Prop}
variable {ls : Array Slot} {D : va_G} {ca : Nat → ClassId} {A : Nat → Prop} {h0 : Nat} {ad : Nat → Nat} {H0 : Heap} {u : iST}
def w_isPair (a0 : Int) (Q : Int → iST → Prop) (u : iST) : Prop :=
  bd a0 452000 (rd (u.2.1 0 a0) (fun v1 => 
  br (v1 < 0) (
    zt 0 (Q 0 u)) (
    zt 1 (Q 1 u))))
set_option maxRecDepth 20000 in
set_option maxHeartbeats 4000000 in
theorem b_isPair_s (X : kX p m c cX12_isPair 2 s args D ca) (hRf : 0 ≤ R.frames) (hRl : 0 ≤ R.locals) {Q : Int → iST → Prop} (hret : ∀ (v : Int) (u : iST) (H : Heap) (locs : List Loc) (ls : Array Slot) (pc : Nat), bz v → Q v u → kW D ca A h0 ad H0 H locs u → decode cX12_isPair pc = .ok (.ireturn, 1) → W p l e R s m args below meth c H locs 0 0 Qf (F0 m pc ls [.int (jI v)])) {a0 : Int} (ra0 : inR a0) (hw : kW D ca A h0 ad H0 H locs u) (hl : lv_has ls 2 [(0, .ref h0), (1, .int (jI a0))]) (h : w_isPair a0 Q u) : W p l e R s m args below meth c H locs 0 0 Qf (F0 m 0 ls []) := by
  have hx := X.1.1
  have hb := X.1.2.1
  unfold w_isPair at h
  refine lv_aload_n hx hb dX12_isPair_0 rfl (lv_at hl 0 rfl) ?_
  refine gA 0 8 (by decide) L_0 (fun _ _ => mF_0) rfl X hw dX12_isPair_1 ?_
  refine lv_iload_n hx hb dX12_isPair_4 rfl (lv_at hl 1 rfl) ?_
  refine aL 0 1 0 452000 (fun _ _ _ _ => mG_0) (fun _ => rfl) X hw ra0 dX12_isPair_5 rfl h (fun v1 rv1 h => ?_)
  refine k_if_lt hx hb rv1 dX12_isPair_6 (tgt := 13) rfl h (fun h => ?_) (fun h => ?_)
  · refine lv_iconst hx hb dX12_isPair_13 (v := jI 0) rfl ?_
    exact hret _ _ _ _ _ _ h.1 h.2 hw dX12_isPair_14
  · refine lv_iconst hx hb dX12_isPair_9 (v := jI 1) rfl ?_
    refine lv_goto hx hb dX12_isPair_10 (tgt := 14) rfl ?_
    exact hret _ _ _ _ _ _ h.1 h.2 hw dX12_isPair_14

end
theorem c_isPair {l : Launch} {a0 : Int} (ra0 : inR a0) {Q : Int → iST → Prop} {u : iST} (h : w_isPair a0 Q u) : kMI l yX12_isPair (.code yX12_isPair cX12_isPair 2 (some .boolean) :: wsM) { frames := 0, cells := 0, slots := 0, locals := 0 } [.int (jI a0)] Q u := kMZ_of rfl (fun _ => Nat.le_of_ble_eq_true rfl) (fun X hRf hRl hret hw hl => b_isPair_s X hRf hRl hret ra0 hw hl h)

/-! isNatural -/
theorem dX12_isNatural_0 : decode cX12_isNatural 0 = .ok (.aload_n 0, 1) := by decide +kernel
theorem dX12_isNatural_1 : decode cX12_isNatural 1 = .ok (.getfield 8, 3) := by decide +kernel
theorem dX12_isNatural_4 : decode cX12_isNatural 4 = .ok (.iload_n 1, 1) := by decide +kernel
theorem dX12_isNatural_5 : decode cX12_isNatural 5 = .ok (.iaload, 1) := by decide +kernel
theorem dX12_isNatural_6 : decode cX12_isNatural 6 = .ok (.iconst (-1), 1) := by decide +kernel
theorem dX12_isNatural_7 : decode cX12_isNatural 7 = .ok (.if_icmp .ne 7, 3) := by decide +kernel
theorem dX12_isNatural_10 : decode cX12_isNatural 10 = .ok (.iconst 1, 1) := by decide +kernel
theorem dX12_isNatural_11 : decode cX12_isNatural 11 = .ok (.goto 4, 3) := by decide +kernel
theorem dX12_isNatural_14 : decode cX12_isNatural 14 = .ok (.iconst 0, 1) := by decide +kernel
theorem dX12_isNatural_15 : decode cX12_isNatural 15 = .ok (.ireturn, 1) := by decide +kernel

section
variable {p : Program} {l : Launch} {e : Env} {R : Room} {s : State} {m : MethodId} {args : Array Value} {below : List Frame} {meth : Method} {c : Code} {H : Heap} {locs : List Loc} {Qf : State → Prop}
variable {ls : Array Slot} {D : va_G} {ca : Nat → ClassId} {A : Nat → Prop} {h0 : Nat} {ad : Nat → Nat} {H0 : Heap} {u : iST}
def w_isNatural (a0 : Int) (Q : Int → iST → Prop) (u : iST) : Prop :=
  bd a0 452000 (rd (u.2.1 0 a0) (fun v1 => 
  br (v1 ≠ (-1)) (
    zt 0 (Q 0 u)) (
    zt 1 (Q 1 u))))
set_option maxRecDepth 20000 in
set_option maxHeartbeats 4000000 in
theorem b_isNatural_s (X : kX p m c cX12_isNatural 2 s args D ca) (hRf : 0 ≤ R.frames) (hRl : 0 ≤ R.locals) {Q : Int → iST → Prop} (hret : ∀ (v : Int) (u : iST) (H : Heap) (locs : List Loc) (ls : Array Slot) (pc : Nat), bz v → Q v u → kW D ca A h0 ad H0 H locs u → decode cX12_isNatural pc = .ok (.ireturn, 1) → W p l e R s m args below meth c H locs 0 0 Qf (F0 m pc ls [.int (jI v)])) {a0 : Int} (ra0 : inR a0) (hw : kW D ca A h0 ad H0 H locs u) (hl : lv_has ls 2 [(0, .ref h0), (1, .int (jI a0))]) (h : w_isNatural a0 Q u) : W p l e R s m args below meth c H locs 0 0 Qf (F0 m 0 ls []) := by
  have hx := X.1.1
  have hb := X.1.2.1
  unfold w_isNatural at h
  refine lv_aload_n hx hb dX12_isNatural_0 rfl (lv_at hl 0 rfl) ?_
  refine gA 0 8 (by decide) L_0 (fun _ _ => mF_0) rfl X hw dX12_isNatural_1 ?_
  refine lv_iload_n hx hb dX12_isNatural_4 rfl (lv_at hl 1 rfl) ?_
  refine aL 0 1 0 452000 (fun _ _ _ _ => mG_0) (fun _ => rfl) X hw ra0 dX12_isNatural_5 rfl h (fun v1 rv1 h => ?_)
  refine lv_iconst hx hb dX12_isNatural_6 (v := jI (-1)) rfl ?_
  refine k_icmp_ne hx hb rv1 (by decide) dX12_isNatural_7 (tgt := 14) rfl h (fun h => ?_) (fun h => ?_)
  · refine lv_iconst hx hb dX12_isNatural_14 (v := jI 0) rfl ?_
    exact hret _ _ _ _ _ _ h.1 h.2 hw dX12_isNatural_15
  · refine lv_iconst hx hb dX12_isNatural_10 (v := jI 1) rfl ?_
    refine lv_goto hx hb dX12_isNatural_11 (tgt := 15) rfl ?_
    exact hret _ _ _ _ _ _ h.1 h.2 hw dX12_isNatural_15

end
theorem c_isNatural {l : Launch} {a0 : Int} (ra0 : inR a0) {Q : Int → iST → Prop} {u : iST} (h : w_isNatural a0 Q u) : kMI l yX12_isNatural (.code yX12_isNatural cX12_isNatural 2 (some .boolean) :: wsM) { frames := 0, cells := 0, slots := 0, locals := 0 } [.int (jI a0)] Q u := kMZ_of rfl (fun _ => Nat.le_of_ble_eq_true rfl) (fun X hRf hRl hret hw hl => b_isNatural_s X hRf hRl hret ra0 hw hl h)

/-! isSymbol -/
theorem dX12_isSymbol_0 : decode cX12_isSymbol 0 = .ok (.aload_n 0, 1) := by decide +kernel
theorem dX12_isSymbol_1 : decode cX12_isSymbol 1 = .ok (.getfield 8, 3) := by decide +kernel
theorem dX12_isSymbol_4 : decode cX12_isSymbol 4 = .ok (.iload_n 1, 1) := by decide +kernel
theorem dX12_isSymbol_5 : decode cX12_isSymbol 5 = .ok (.iaload, 1) := by decide +kernel
theorem dX12_isSymbol_6 : decode cX12_isSymbol 6 = .ok (.bipush (-2), 2) := by decide +kernel
theorem dX12_isSymbol_8 : decode cX12_isSymbol 8 = .ok (.if_icmp .ne 7, 3) := by decide +kernel
theorem dX12_isSymbol_11 : decode cX12_isSymbol 11 = .ok (.iconst 1, 1) := by decide +kernel
theorem dX12_isSymbol_12 : decode cX12_isSymbol 12 = .ok (.goto 4, 3) := by decide +kernel
theorem dX12_isSymbol_15 : decode cX12_isSymbol 15 = .ok (.iconst 0, 1) := by decide +kernel
theorem dX12_isSymbol_16 : decode cX12_isSymbol 16 = .ok (.ireturn, 1) := by decide +kernel

section
variable {p : Program} {l : Launch} {e : Env} {R : Room} {s : State} {m : MethodId} {args : Array Value} {below : List Frame} {meth : Method} {c : Code} {H : Heap} {locs : List Loc} {Qf : State → Prop}
variable {ls : Array Slot} {D : va_G} {ca : Nat → ClassId} {A : Nat → Prop} {h0 : Nat} {ad : Nat → Nat} {H0 : Heap} {u : iST}
def w_isSymbol (a0 : Int) (Q : Int → iST → Prop) (u : iST) : Prop :=
  bd a0 452000 (rd (u.2.1 0 a0) (fun v1 => 
  br (v1 ≠ (-2)) (
    zt 0 (Q 0 u)) (
    zt 1 (Q 1 u))))
set_option maxRecDepth 20000 in
set_option maxHeartbeats 4000000 in
theorem b_isSymbol_s (X : kX p m c cX12_isSymbol 2 s args D ca) (hRf : 0 ≤ R.frames) (hRl : 0 ≤ R.locals) {Q : Int → iST → Prop} (hret : ∀ (v : Int) (u : iST) (H : Heap) (locs : List Loc) (ls : Array Slot) (pc : Nat), bz v → Q v u → kW D ca A h0 ad H0 H locs u → decode cX12_isSymbol pc = .ok (.ireturn, 1) → W p l e R s m args below meth c H locs 0 0 Qf (F0 m pc ls [.int (jI v)])) {a0 : Int} (ra0 : inR a0) (hw : kW D ca A h0 ad H0 H locs u) (hl : lv_has ls 2 [(0, .ref h0), (1, .int (jI a0))]) (h : w_isSymbol a0 Q u) : W p l e R s m args below meth c H locs 0 0 Qf (F0 m 0 ls []) := by
  have hx := X.1.1
  have hb := X.1.2.1
  unfold w_isSymbol at h
  refine lv_aload_n hx hb dX12_isSymbol_0 rfl (lv_at hl 0 rfl) ?_
  refine gA 0 8 (by decide) L_0 (fun _ _ => mF_0) rfl X hw dX12_isSymbol_1 ?_
  refine lv_iload_n hx hb dX12_isSymbol_4 rfl (lv_at hl 1 rfl) ?_
  refine aL 0 1 0 452000 (fun _ _ _ _ => mG_0) (fun _ => rfl) X hw ra0 dX12_isSymbol_5 rfl h (fun v1 rv1 h => ?_)
  refine lv_bipush hx hb dX12_isSymbol_6 (v := jI (-2)) rfl ?_
  refine k_icmp_ne hx hb rv1 (by decide) dX12_isSymbol_8 (tgt := 15) rfl h (fun h => ?_) (fun h => ?_)
  · refine lv_iconst hx hb dX12_isSymbol_15 (v := jI 0) rfl ?_
    exact hret _ _ _ _ _ _ h.1 h.2 hw dX12_isSymbol_16
  · refine lv_iconst hx hb dX12_isSymbol_11 (v := jI 1) rfl ?_
    refine lv_goto hx hb dX12_isSymbol_12 (tgt := 16) rfl ?_
    exact hret _ _ _ _ _ _ h.1 h.2 hw dX12_isSymbol_16

end
theorem c_isSymbol {l : Launch} {a0 : Int} (ra0 : inR a0) {Q : Int → iST → Prop} {u : iST} (h : w_isSymbol a0 Q u) : kMI l yX12_isSymbol (.code yX12_isSymbol cX12_isSymbol 2 (some .boolean) :: wsM) { frames := 0, cells := 0, slots := 0, locals := 0 } [.int (jI a0)] Q u := kMZ_of rfl (fun _ => Nat.le_of_ble_eq_true rfl) (fun X hRf hRl hret hw hl => b_isSymbol_s X hRf hRl hret ra0 hw hl h)

/-! list1 -/
theorem dX12_list1_0 : decode cX12_list1 0 = .ok (.aload_n 0, 1) := by decide +kernel
theorem dX12_list1_1 : decode cX12_list1 1 = .ok (.iload_n 1, 1) := by decide +kernel
theorem dX12_list1_2 : decode cX12_list1 2 = .ok (.iconst 0, 1) := by decide +kernel
theorem dX12_list1_3 : decode cX12_list1 3 = .ok (.invokevirtual 353, 3) := by decide +kernel
theorem dX12_list1_6 : decode cX12_list1 6 = .ok (.ireturn, 1) := by decide +kernel

section
variable {p : Program} {l : Launch} {e : Env} {R : Room} {s : State} {m : MethodId} {args : Array Value} {below : List Frame} {meth : Method} {c : Code} {H : Heap} {locs : List Loc} {Qf : State → Prop}
variable {ls : Array Slot} {D : va_G} {ca : Nat → ClassId} {A : Nat → Prop} {h0 : Nat} {ad : Nat → Nat} {H0 : Heap} {u : iST}
def w_list1 (a0 : Int) (Q : Int → iST → Prop) (u : iST) : Prop :=
  w_pair a0 0 (fun v1 u => 
  Q v1 u) u
set_option maxRecDepth 20000 in
set_option maxHeartbeats 4000000 in
theorem b_list1_s (X : kX p m c cX12_list1 2 s args D ca) (hRf : 2 ≤ R.frames) (hRl : 47 ≤ R.locals) {Q : Int → iST → Prop} (hret : ∀ (v : Int) (u : iST) (H : Heap) (locs : List Loc) (ls : Array Slot) (pc : Nat), inR v → Q v u → kW D ca A h0 ad H0 H locs u → decode cX12_list1 pc = .ok (.ireturn, 1) → W p l e R s m args below meth c H locs 0 0 Qf (F0 m pc ls [.int (jI v)])) {a0 : Int} (ra0 : inR a0) (hw : kW D ca A h0 ad H0 H locs u) (hl : lv_has ls 2 [(0, .ref h0), (1, .int (jI a0))]) (h : w_list1 a0 Q u) : W p l e R s m args below meth c H locs 0 0 Qf (F0 m 0 ls []) := by
  have hx := X.1.1
  have hb := X.1.2.1
  unfold w_list1 at h
  refine lv_aload_n hx hb dX12_list1_0 rfl (lv_at hl 0 rfl) ?_
  refine lv_iload_n hx hb dX12_list1_1 rfl (lv_at hl 1 rfl) ?_
  refine lv_iconst hx hb dX12_list1_2 (v := jI 0) rfl ?_
  refine kcI (n := 2) (c_pair ra0 (by decide) h) G_pair E_pair X hw (Nat.le_trans (Nat.le_of_ble_eq_true rfl) hRf) (Nat.le_trans (Nat.le_of_ble_eq_true rfl) hRl) rfl hl.1 (Nat.le_of_ble_eq_true rfl) rfl dX12_list1_3 (fun v1 u H locs rv1 h hw => ?_)
  exact hret _ _ _ _ _ _ rv1 h hw dX12_list1_6

end
theorem c_list1 {l : Launch} {a0 : Int} (ra0 : inR a0) {Q : Int → iST → Prop} {u : iST} (h : w_list1 a0 Q u) : kMI l yX12_list1 (.code yX12_list1 cX12_list1 2 (some .int) :: wsM) { frames := 2, cells := 0, slots := 0, locals := 47 } [.int (jI a0)] Q u := kMI_of rfl (fun _ => Nat.le_of_ble_eq_true rfl) (fun X hRf hRl hret hw hl => b_list1_s X hRf hRl hret ra0 hw hl h)

/-! list2 -/
theorem dX12_list2_0 : decode cX12_list2 0 = .ok (.aload_n 0, 1) := by decide +kernel
theorem dX12_list2_1 : decode cX12_list2 1 = .ok (.iload_n 1, 1) := by decide +kernel
theorem dX12_list2_2 : decode cX12_list2 2 = .ok (.aload_n 0, 1) := by decide +kernel
theorem dX12_list2_3 : decode cX12_list2 3 = .ok (.iload_n 2, 1) := by decide +kernel
theorem dX12_list2_4 : decode cX12_list2 4 = .ok (.invokevirtual 356, 3) := by decide +kernel
theorem dX12_list2_7 : decode cX12_list2 7 = .ok (.invokevirtual 353, 3) := by decide +kernel
theorem dX12_list2_10 : decode cX12_list2 10 = .ok (.ireturn, 1) := by decide +kernel

section
variable {p : Program} {l : Launch} {e : Env} {R : Room} {s : State} {m : MethodId} {args : Array Value} {below : List Frame} {meth : Method} {c : Code} {H : Heap} {locs : List Loc} {Qf : State → Prop}
variable {ls : Array Slot} {D : va_G} {ca : Nat → ClassId} {A : Nat → Prop} {h0 : Nat} {ad : Nat → Nat} {H0 : Heap} {u : iST}
def w_list2 (a0 : Int) (a1 : Int) (Q : Int → iST → Prop) (u : iST) : Prop :=
  w_list1 a1 (fun v1 u => 
  w_pair a0 v1 (fun v2 u => 
  Q v2 u) u) u
set_option maxRecDepth 20000 in
set_option maxHeartbeats 4000000 in
theorem b_list2_s (X : kX p m c cX12_list2 3 s args D ca) (hRf : 3 ≤ R.frames) (hRl : 68 ≤ R.locals) {Q : Int → iST → Prop} (hret : ∀ (v : Int) (u : iST) (H : Heap) (locs : List Loc) (ls : Array Slot) (pc : Nat), inR v → Q v u → kW D ca A h0 ad H0 H locs u → decode cX12_list2 pc = .ok (.ireturn, 1) → W p l e R s m args below meth c H locs 0 0 Qf (F0 m pc ls [.int (jI v)])) {a0 a1 : Int} (ra0 : inR a0) (ra1 : inR a1) (hw : kW D ca A h0 ad H0 H locs u) (hl : lv_has ls 3 [(0, .ref h0), (1, .int (jI a0)), (2, .int (jI a1))]) (h : w_list2 a0 a1 Q u) : W p l e R s m args below meth c H locs 0 0 Qf (F0 m 0 ls []) := by
  have hx := X.1.1
  have hb := X.1.2.1
  unfold w_list2 at h
  refine lv_aload_n hx hb dX12_list2_0 rfl (lv_at hl 0 rfl) ?_
  refine lv_iload_n hx hb dX12_list2_1 rfl (lv_at hl 1 rfl) ?_
  refine lv_aload_n hx hb dX12_list2_2 rfl (lv_at hl 0 rfl) ?_
  refine lv_iload_n hx hb dX12_list2_3 rfl (lv_at hl 2 rfl) ?_
  refine kcI (n := 1) (c_list1 ra1 h) G_list1 E_list1 X hw (Nat.le_trans (Nat.le_of_ble_eq_true rfl) hRf) (Nat.le_trans (Nat.le_of_ble_eq_true rfl) hRl) rfl hl.1 (Nat.le_of_ble_eq_true rfl) rfl dX12_list2_4 (fun v1 u H locs rv1 h hw => ?_)
  refine kcI (n := 2) (c_pair ra0 rv1 h) G_pair E_pair X hw (Nat.le_trans (Nat.le_of_ble_eq_true rfl) hRf) (Nat.le_trans (Nat.le_of_ble_eq_true rfl) hRl) rfl hl.1 (Nat.le_of_ble_eq_true rfl) rfl dX12_list2_7 (fun v2 u H locs rv2 h hw => ?_)
  exact hret _ _ _ _ _ _ rv2 h hw dX12_list2_10

end
theorem c_list2 {l : Launch} {a0 : Int} {a1 : Int} (ra0 : inR a0) (ra1 : inR a1) {Q : Int → iST → Prop} {u : iST} (h : w_list2 a0 a1 Q u) : kMI l yX12_list2 (.code yX12_list2 cX12_list2 3 (some .int) :: wsM) { frames := 3, cells := 0, slots := 0, locals := 68 } [.int (jI a0), .int (jI a1)] Q u := kMI_of rfl (fun _ => Nat.le_of_ble_eq_true rfl) (fun X hRf hRl hret hw hl => b_list2_s X hRf hRl hret ra0 ra1 hw hl h)

/-! list3 -/
theorem dX12_list3_0 : decode cX12_list3 0 = .ok (.aload_n 0, 1) := by decide +kernel
theorem dX12_list3_1 : decode cX12_list3 1 = .ok (.iload_n 1, 1) := by decide +kernel
theorem dX12_list3_2 : decode cX12_list3 2 = .ok (.aload_n 0, 1) := by decide +kernel
theorem dX12_list3_3 : decode cX12_list3 3 = .ok (.iload_n 2, 1) := by decide +kernel
theorem dX12_list3_4 : decode cX12_list3 4 = .ok (.iload_n 3, 1) := by decide +kernel
theorem dX12_list3_5 : decode cX12_list3 5 = .ok (.invokevirtual 359, 3) := by decide +kernel
theorem dX12_list3_8 : decode cX12_list3 8 = .ok (.invokevirtual 353, 3) := by decide +kernel
theorem dX12_list3_11 : decode cX12_list3 11 = .ok (.ireturn, 1) := by decide +kernel

section
variable {p : Program} {l : Launch} {e : Env} {R : Room} {s : State} {m : MethodId} {args : Array Value} {below : List Frame} {meth : Method} {c : Code} {H : Heap} {locs : List Loc} {Qf : State → Prop}
variable {ls : Array Slot} {D : va_G} {ca : Nat → ClassId} {A : Nat → Prop} {h0 : Nat} {ad : Nat → Nat} {H0 : Heap} {u : iST}
def w_list3 (a0 : Int) (a1 : Int) (a2 : Int) (Q : Int → iST → Prop) (u : iST) : Prop :=
  w_list2 a1 a2 (fun v1 u => 
  w_pair a0 v1 (fun v2 u => 
  Q v2 u) u) u
set_option maxRecDepth 20000 in
set_option maxHeartbeats 4000000 in
theorem b_list3_s (X : kX p m c cX12_list3 4 s args D ca) (hRf : 4 ≤ R.frames) (hRl : 90 ≤ R.locals) {Q : Int → iST → Prop} (hret : ∀ (v : Int) (u : iST) (H : Heap) (locs : List Loc) (ls : Array Slot) (pc : Nat), inR v → Q v u → kW D ca A h0 ad H0 H locs u → decode cX12_list3 pc = .ok (.ireturn, 1) → W p l e R s m args below meth c H locs 0 0 Qf (F0 m pc ls [.int (jI v)])) {a0 a1 a2 : Int} (ra0 : inR a0) (ra1 : inR a1) (ra2 : inR a2) (hw : kW D ca A h0 ad H0 H locs u) (hl : lv_has ls 4 [(0, .ref h0), (1, .int (jI a0)), (2, .int (jI a1)), (3, .int (jI a2))]) (h : w_list3 a0 a1 a2 Q u) : W p l e R s m args below meth c H locs 0 0 Qf (F0 m 0 ls []) := by
  have hx := X.1.1
  have hb := X.1.2.1
  unfold w_list3 at h
  refine lv_aload_n hx hb dX12_list3_0 rfl (lv_at hl 0 rfl) ?_
  refine lv_iload_n hx hb dX12_list3_1 rfl (lv_at hl 1 rfl) ?_
  refine lv_aload_n hx hb dX12_list3_2 rfl (lv_at hl 0 rfl) ?_
  refine lv_iload_n hx hb dX12_list3_3 rfl (lv_at hl 2 rfl) ?_
  refine lv_iload_n hx hb dX12_list3_4 rfl (lv_at hl 3 rfl) ?_
  refine kcI (n := 2) (c_list2 ra1 ra2 h) G_list2 E_list2 X hw (Nat.le_trans (Nat.le_of_ble_eq_true rfl) hRf) (Nat.le_trans (Nat.le_of_ble_eq_true rfl) hRl) rfl hl.1 (Nat.le_of_ble_eq_true rfl) rfl dX12_list3_5 (fun v1 u H locs rv1 h hw => ?_)
  refine kcI (n := 2) (c_pair ra0 rv1 h) G_pair E_pair X hw (Nat.le_trans (Nat.le_of_ble_eq_true rfl) hRf) (Nat.le_trans (Nat.le_of_ble_eq_true rfl) hRl) rfl hl.1 (Nat.le_of_ble_eq_true rfl) rfl dX12_list3_8 (fun v2 u H locs rv2 h hw => ?_)
  exact hret _ _ _ _ _ _ rv2 h hw dX12_list3_11

end
theorem c_list3 {l : Launch} {a0 : Int} {a1 : Int} {a2 : Int} (ra0 : inR a0) (ra1 : inR a1) (ra2 : inR a2) {Q : Int → iST → Prop} {u : iST} (h : w_list3 a0 a1 a2 Q u) : kMI l yX12_list3 (.code yX12_list3 cX12_list3 4 (some .int) :: wsM) { frames := 4, cells := 0, slots := 0, locals := 90 } [.int (jI a0), .int (jI a1), .int (jI a2)] Q u := kMI_of rfl (fun _ => Nat.le_of_ble_eq_true rfl) (fun X hRf hRl hret hw hl => b_list3_s X hRf hRl hret ra0 ra1 ra2 hw hl h)

/-! lengthOf -/
theorem dX12_lengthOf_0 : decode cX12_lengthOf 0 = .ok (.iconst 0, 1) := by decide +kernel
theorem dX12_lengthOf_1 : decode cX12_lengthOf 1 = .ok (.istore_n 2, 1) := by decide +kernel
theorem dX12_lengthOf_2 : decode cX12_lengthOf 2 = .ok (.iload_n 1, 1) := by decide +kernel
theorem dX12_lengthOf_3 : decode cX12_lengthOf 3 = .ok (.istore_n 3, 1) := by decide +kernel
theorem dX12_lengthOf_4 : decode cX12_lengthOf 4 = .ok (.aload_n 0, 1) := by decide +kernel
theorem dX12_lengthOf_5 : decode cX12_lengthOf 5 = .ok (.iload_n 3, 1) := by decide +kernel
theorem dX12_lengthOf_6 : decode cX12_lengthOf 6 = .ok (.invokevirtual 365, 3) := by decide +kernel
theorem dX12_lengthOf_9 : decode cX12_lengthOf 9 = .ok (.ifCond .eq 16, 3) := by decide +kernel
theorem dX12_lengthOf_12 : decode cX12_lengthOf 12 = .ok (.iinc 2 1, 3) := by decide +kernel
theorem dX12_lengthOf_15 : decode cX12_lengthOf 15 = .ok (.aload_n 0, 1) := by decide +kernel
theorem dX12_lengthOf_16 : decode cX12_lengthOf 16 = .ok (.getfield 14, 3) := by decide +kernel
theorem dX12_lengthOf_19 : decode cX12_lengthOf 19 = .ok (.iload_n 3, 1) := by decide +kernel
theorem dX12_lengthOf_20 : decode cX12_lengthOf 20 = .ok (.iaload, 1) := by decide +kernel
theorem dX12_lengthOf_21 : decode cX12_lengthOf 21 = .ok (.istore_n 3, 1) := by decide +kernel
theorem dX12_lengthOf_22 : decode cX12_lengthOf 22 = .ok (.goto (-18), 3) := by decide +kernel
theorem dX12_lengthOf_25 : decode cX12_lengthOf 25 = .ok (.iload_n 3, 1) := by decide +kernel
theorem dX12_lengthOf_26 : decode cX12_lengthOf 26 = .ok (.ifCond .ne 7, 3) := by decide +kernel
theorem dX12_lengthOf_29 : decode cX12_lengthOf 29 = .ok (.iload_n 2, 1) := by decide +kernel
theorem dX12_lengthOf_30 : decode cX12_lengthOf 30 = .ok (.goto 4, 3) := by decide +kernel
theorem dX12_lengthOf_33 : decode cX12_lengthOf 33 = .ok (.iconst (-1), 1) := by decide +kernel
theorem dX12_lengthOf_34 : decode cX12_lengthOf 34 = .ok (.ireturn, 1) := by decide +kernel

section
variable {p : Program} {l : Launch} {e : Env} {R : Room} {s : State} {m : MethodId} {args : Array Value} {below : List Frame} {meth : Method} {c : Code} {H : Heap} {locs : List Loc} {Qf : State → Prop}
variable {ls : Array Slot} {D : va_G} {ca : Nat → ClassId} {A : Nat → Prop} {h0 : Nat} {ad : Nat → Nat} {H0 : Heap} {u : iST}
def w_lengthOf_4b (R4 : Int → Int → iST → Prop) (Q : Int → iST → Prop) (x2 : Int) (x3 : Int) (u : iST) : Prop :=
  w_isPair x3 (fun v1 u => 
  br (v1 = 0) (
    br (x3 ≠ 0) (
      Q (-1) u) (
      Q x2 u)) (
    ov (x2 + 1) (
    bd x3 452000 (rd (u.2.1 1 x3) (fun v3 => 
    R4 (x2 + 1) v3 u))))) u
def w_lengthOf_4 (Q : Int → iST → Prop) (x2 : Int) (x3 : Int) (u : iST) : Prop := ∀ R4 : Int → Int → iST → Prop, (∀ (x2 : Int) (x3 : Int) (u : iST), w_lengthOf_4b R4 Q x2 x3 u → R4 x2 x3 u) → R4 x2 x3 u
set_option maxRecDepth 20000 in
set_option maxHeartbeats 4000000 in
theorem b_lengthOf_4 (X : kX p m c cX12_lengthOf 4 s args D ca) (hRf : 1 ≤ R.frames) (hRl : 21 ≤ R.locals) {Q : Int → iST → Prop} (hret : ∀ (v : Int) (u : iST) (H : Heap) (locs : List Loc) (ls : Array Slot) (pc : Nat), inR v → Q v u → kW D ca A h0 ad H0 H locs u → decode cX12_lengthOf pc = .ok (.ireturn, 1) → W p l e R s m args below meth c H locs 0 0 Qf (F0 m pc ls [.int (jI v)])) {x2 x3 : Int} (rx2 : inR x2) (rx3 : inR x3) (hw : kW D ca A h0 ad H0 H locs u) (hl : lv_has ls 4 [(0, .ref h0), (2, .int (jI x2)), (3, .int (jI x3))]) (h : w_lengthOf_4 Q x2 x3 u) : W p l e R s m args below meth c H locs 0 0 Qf (F0 m 4 ls []) := by
  refine h (fun x2 x3 u => ∀ (H : Heap) (locs : List Loc) (ls : Array Slot), inR x2 → inR x3 → kW D ca A h0 ad H0 H locs u → lv_has ls 4 [(0, .ref h0), (2, .int (jI x2)), (3, .int (jI x3))] → W p l e R s m args below meth c H locs 0 0 Qf (F0 m 4 ls [])) ?_ H locs ls rx2 rx3 hw hl
  clear h hl hw rx2 rx3
  intro x2 x3 u h H locs ls rx2 rx3 hw hl
  have hR4 : ∀ (x2 : Int) (x3 : Int) (u : iST) (H : Heap) (locs : List Loc) (ls : Array Slot), inR x2 → inR x3 → kW D ca A h0 ad H0 H locs u → lv_has ls 4 [(0, .ref h0), (2, .int (jI x2)), (3, .int (jI x3))] → (fun (x2 : Int) (x3 : Int) u => ∀ (H : Heap) (locs : List Loc) (ls : Array Slot), inR x2 → inR x3 → kW D ca A h0 ad H0 H locs u → lv_has ls 4 [(0, .ref h0), (2, .int (jI x2)), (3, .int (jI x3))] → W p l e R s m args below meth c H locs 0 0 Qf (F0 m 4 ls [])) x2 x3 u → W p l e R s m args below meth c H locs 0 0 Qf (F0 m 4 ls []) := fun x2 x3 u H locs ls rx2 rx3 hw hl h => h H locs ls rx2 rx3 hw hl
  have hx := X.1.1
  have hb := X.1.2.1
  unfold w_lengthOf_4b at h
  refine lv_aload_n hx hb dX12_lengthOf_4 rfl (lv_at hl 0 rfl) ?_
  refine lv_iload_n hx hb dX12_lengthOf_5 rfl (lv_at hl 2 rfl) ?_
  refine kcI (n := 1) (c_isPair rx3 h) G_isPair E_isPair X hw (Nat.le_trans (Nat.le_of_ble_eq_true rfl) hRf) (Nat.le_trans (Nat.le_of_ble_eq_true rfl) hRl) rfl hl.1 (Nat.le_of_ble_eq_true rfl) rfl dX12_lengthOf_6 (fun v1 u H locs rv1 h hw => ?_)
  refine k_if_eq hx hb rv1 dX12_lengthOf_9 (tgt := 25) rfl h (fun h => ?_) (fun h => ?_)
  · refine lv_iload_n hx hb dX12_lengthOf_25 rfl (lv_at hl 2 rfl) ?_
    refine k_if_ne hx hb rx3 dX12_lengthOf_26 (tgt := 33) rfl h (fun h => ?_) (fun h => ?_)
    · refine lv_iconst hx hb dX12_lengthOf_33 (v := jI (-1)) rfl ?_
      exact hret _ _ _ _ _ _ (by decide) h hw dX12_lengthOf_34
    · refine lv_iload_n hx hb dX12_lengthOf_29 rfl (lv_at hl 1 rfl) ?_
      refine lv_goto hx hb dX12_lengthOf_30 (tgt := 34) rfl ?_
      exact hret _ _ _ _ _ _ rx2 h hw dX12_lengthOf_34
  · refine k_iinc (k := 1) hx hb dX12_lengthOf_12 hl rfl (by decide) rfl h (fun ls r2 h hl => ?_)
    have hl : lv_has ls 4 [(2, .int (jI (x2 + 1))), (0, .ref (h0)), (3, .int (jI x3))] := hl
    refine lv_aload_n hx hb dX12_lengthOf_15 rfl (lv_at hl 1 rfl) ?_
    refine gA 1 14 (by decide) L_1 (fun _ _ => mF_1) rfl X hw dX12_lengthOf_16 ?_
    refine lv_iload_n hx hb dX12_lengthOf_19 rfl (lv_at hl 2 rfl) ?_
    refine aL 1 2 1 452000 (fun _ _ _ _ => mG_1) (fun _ => rfl) X hw rx3 dX12_lengthOf_20 rfl h (fun v3 rv3 h => ?_)
    refine lv_istore_n hx hb dX12_lengthOf_21 rfl hl (by decide) rfl (fun ls hl => ?_)
    have hl : lv_has ls 4 [(3, .int (jI v3)), (2, .int (jI (x2 + 1))), (0, .ref (h0))] := hl
    refine lv_goto hx hb dX12_lengthOf_22 (tgt := 4) rfl ?_
    exact hR4 _ _ _ H locs ls r2 rv3 hw (lv_sub hl [2, 1, 0] rfl) h

def w_lengthOf (a0 : Int) (Q : Int → iST → Prop) (u : iST) : Prop :=
  w_lengthOf_4 Q 0 a0 u
set_option maxRecDepth 20000 in
set_option maxHeartbeats 4000000 in
theorem b_lengthOf_s (X : kX p m c cX12_lengthOf 4 s args D ca) (hRf : 1 ≤ R.frames) (hRl : 21 ≤ R.locals) {Q : Int → iST → Prop} (hret : ∀ (v : Int) (u : iST) (H : Heap) (locs : List Loc) (ls : Array Slot) (pc : Nat), inR v → Q v u → kW D ca A h0 ad H0 H locs u → decode cX12_lengthOf pc = .ok (.ireturn, 1) → W p l e R s m args below meth c H locs 0 0 Qf (F0 m pc ls [.int (jI v)])) {a0 : Int} (ra0 : inR a0) (hw : kW D ca A h0 ad H0 H locs u) (hl : lv_has ls 4 [(0, .ref h0), (1, .int (jI a0))]) (h : w_lengthOf a0 Q u) : W p l e R s m args below meth c H locs 0 0 Qf (F0 m 0 ls []) := by
  have hx := X.1.1
  have hb := X.1.2.1
  unfold w_lengthOf at h
  refine lv_iconst hx hb dX12_lengthOf_0 (v := jI 0) rfl ?_
  refine lv_istore_n hx hb dX12_lengthOf_1 rfl hl (by decide) rfl (fun ls hl => ?_)
  have hl : lv_has ls 4 [(2, .int (jI 0)), (0, .ref (h0)), (1, .int (jI a0))] := hl
  refine lv_iload_n hx hb dX12_lengthOf_2 rfl (lv_at hl 2 rfl) ?_
  refine lv_istore_n hx hb dX12_lengthOf_3 rfl hl (by decide) rfl (fun ls hl => ?_)
  have hl : lv_has ls 4 [(3, .int (jI a0)), (2, .int (jI 0)), (0, .ref (h0)), (1, .int (jI a0))] := hl
  exact b_lengthOf_4 X hRf hRl hret (by decide) ra0 hw (lv_sub hl [2, 1, 0] rfl) h

end
theorem c_lengthOf {l : Launch} {a0 : Int} (ra0 : inR a0) {Q : Int → iST → Prop} {u : iST} (h : w_lengthOf a0 Q u) : kMI l yX12_lengthOf (.code yX12_lengthOf cX12_lengthOf 4 (some .int) :: wsM) { frames := 1, cells := 0, slots := 0, locals := 21 } [.int (jI a0)] Q u := kMI_of rfl (fun _ => Nat.le_of_ble_eq_true rfl) (fun X hRf hRl hret hw hl => b_lengthOf_s X hRf hRl hret ra0 hw hl h)

/-! nth -/
theorem dX12_nth_0 : decode cX12_nth 0 = .ok (.iload_n 1, 1) := by decide +kernel
theorem dX12_nth_1 : decode cX12_nth 1 = .ok (.istore_n 3, 1) := by decide +kernel
theorem dX12_nth_2 : decode cX12_nth 2 = .ok (.iconst 0, 1) := by decide +kernel
theorem dX12_nth_3 : decode cX12_nth 3 = .ok (.istore 4, 2) := by decide +kernel
theorem dX12_nth_5 : decode cX12_nth 5 = .ok (.iload 4, 2) := by decide +kernel
theorem dX12_nth_7 : decode cX12_nth 7 = .ok (.iload_n 2, 1) := by decide +kernel
theorem dX12_nth_8 : decode cX12_nth 8 = .ok (.if_icmp .ge 16, 3) := by decide +kernel
theorem dX12_nth_11 : decode cX12_nth 11 = .ok (.aload_n 0, 1) := by decide +kernel
theorem dX12_nth_12 : decode cX12_nth 12 = .ok (.getfield 14, 3) := by decide +kernel
theorem dX12_nth_15 : decode cX12_nth 15 = .ok (.iload_n 3, 1) := by decide +kernel
theorem dX12_nth_16 : decode cX12_nth 16 = .ok (.iaload, 1) := by decide +kernel
theorem dX12_nth_17 : decode cX12_nth 17 = .ok (.istore_n 3, 1) := by decide +kernel
theorem dX12_nth_18 : decode cX12_nth 18 = .ok (.iinc 4 1, 3) := by decide +kernel
theorem dX12_nth_21 : decode cX12_nth 21 = .ok (.goto (-16), 3) := by decide +kernel
theorem dX12_nth_24 : decode cX12_nth 24 = .ok (.aload_n 0, 1) := by decide +kernel
theorem dX12_nth_25 : decode cX12_nth 25 = .ok (.getfield 8, 3) := by decide +kernel
theorem dX12_nth_28 : decode cX12_nth 28 = .ok (.iload_n 3, 1) := by decide +kernel
theorem dX12_nth_29 : decode cX12_nth 29 = .ok (.iaload, 1) := by decide +kernel
theorem dX12_nth_30 : decode cX12_nth 30 = .ok (.ireturn, 1) := by decide +kernel

section
variable {p : Program} {l : Launch} {e : Env} {R : Room} {s : State} {m : MethodId} {args : Array Value} {below : List Frame} {meth : Method} {c : Code} {H : Heap} {locs : List Loc} {Qf : State → Prop}
variable {ls : Array Slot} {D : va_G} {ca : Nat → ClassId} {A : Nat → Prop} {h0 : Nat} {ad : Nat → Nat} {H0 : Heap} {u : iST}
def w_nth_5b (R5 : Int → Int → Int → iST → Prop) (Q : Int → iST → Prop) (x2 : Int) (x3 : Int) (x4 : Int) (u : iST) : Prop :=
  br (x2 ≤ x4) (
    bd x3 452000 (rd (u.2.1 0 x3) (fun v1 => 
    Q v1 u))) (
    bd x3 452000 (rd (u.2.1 1 x3) (fun v2 => 
    ov (x4 + 1) (
    R5 x2 v2 (x4 + 1) u))))
def w_nth_5 (Q : Int → iST → Prop) (x2 : Int) (x3 : Int) (x4 : Int) (u : iST) : Prop := ∀ R5 : Int → Int → Int → iST → Prop, (∀ (x2 : Int) (x3 : Int) (x4 : Int) (u : iST), w_nth_5b R5 Q x2 x3 x4 u → R5 x2 x3 x4 u) → R5 x2 x3 x4 u
set_option maxRecDepth 20000 in
set_option maxHeartbeats 4000000 in
theorem b_nth_5 (X : kX p m c cX12_nth 5 s args D ca) (hRf : 0 ≤ R.frames) (hRl : 0 ≤ R.locals) {Q : Int → iST → Prop} (hret : ∀ (v : Int) (u : iST) (H : Heap) (locs : List Loc) (ls : Array Slot) (pc : Nat), inR v → Q v u → kW D ca A h0 ad H0 H locs u → decode cX12_nth pc = .ok (.ireturn, 1) → W p l e R s m args below meth c H locs 0 0 Qf (F0 m pc ls [.int (jI v)])) {x2 x3 x4 : Int} (rx2 : inR x2) (rx3 : inR x3) (rx4 : inR x4) (hw : kW D ca A h0 ad H0 H locs u) (hl : lv_has ls 5 [(0, .ref h0), (2, .int (jI x2)), (3, .int (jI x3)), (4, .int (jI x4))]) (h : w_nth_5 Q x2 x3 x4 u) : W p l e R s m args below meth c H locs 0 0 Qf (F0 m 5 ls []) := by
  refine h (fun x2 x3 x4 u => ∀ (H : Heap) (locs : List Loc) (ls : Array Slot), inR x2 → inR x3 → inR x4 → kW D ca A h0 ad H0 H locs u → lv_has ls 5 [(0, .ref h0), (2, .int (jI x2)), (3, .int (jI x3)), (4, .int (jI x4))] → W p l e R s m args below meth c H locs 0 0 Qf (F0 m 5 ls [])) ?_ H locs ls rx2 rx3 rx4 hw hl
  clear h hl hw rx2 rx3 rx4
  intro x2 x3 x4 u h H locs ls rx2 rx3 rx4 hw hl
  have hR5 : ∀ (x2 : Int) (x3 : Int) (x4 : Int) (u : iST) (H : Heap) (locs : List Loc) (ls : Array Slot), inR x2 → inR x3 → inR x4 → kW D ca A h0 ad H0 H locs u → lv_has ls 5 [(0, .ref h0), (2, .int (jI x2)), (3, .int (jI x3)), (4, .int (jI x4))] → (fun (x2 : Int) (x3 : Int) (x4 : Int) u => ∀ (H : Heap) (locs : List Loc) (ls : Array Slot), inR x2 → inR x3 → inR x4 → kW D ca A h0 ad H0 H locs u → lv_has ls 5 [(0, .ref h0), (2, .int (jI x2)), (3, .int (jI x3)), (4, .int (jI x4))] → W p l e R s m args below meth c H locs 0 0 Qf (F0 m 5 ls [])) x2 x3 x4 u → W p l e R s m args below meth c H locs 0 0 Qf (F0 m 5 ls []) := fun x2 x3 x4 u H locs ls rx2 rx3 rx4 hw hl h => h H locs ls rx2 rx3 rx4 hw hl
  have hx := X.1.1
  have hb := X.1.2.1
  unfold w_nth_5b at h
  refine lv_iload hx hb dX12_nth_5 (lv_at hl 3 rfl) ?_
  refine lv_iload_n hx hb dX12_nth_7 rfl (lv_at hl 1 rfl) ?_
  refine k_icmp_ge hx hb rx4 rx2 dX12_nth_8 (tgt := 24) rfl h (fun h => ?_) (fun h => ?_)
  · refine lv_aload_n hx hb dX12_nth_24 rfl (lv_at hl 0 rfl) ?_
    refine gA 0 8 (by decide) L_0 (fun _ _ => mF_0) rfl X hw dX12_nth_25 ?_
    refine lv_iload_n hx hb dX12_nth_28 rfl (lv_at hl 2 rfl) ?_
    refine aL 0 1 0 452000 (fun _ _ _ _ => mG_0) (fun _ => rfl) X hw rx3 dX12_nth_29 rfl h (fun v1 rv1 h => ?_)
    exact hret _ _ _ _ _ _ rv1 h hw dX12_nth_30
  · refine lv_aload_n hx hb dX12_nth_11 rfl (lv_at hl 0 rfl) ?_
    refine gA 1 14 (by decide) L_1 (fun _ _ => mF_1) rfl X hw dX12_nth_12 ?_
    refine lv_iload_n hx hb dX12_nth_15 rfl (lv_at hl 2 rfl) ?_
    refine aL 1 2 1 452000 (fun _ _ _ _ => mG_1) (fun _ => rfl) X hw rx3 dX12_nth_16 rfl h (fun v2 rv2 h => ?_)
    refine lv_istore_n hx hb dX12_nth_17 rfl hl (by decide) rfl (fun ls hl => ?_)
    have hl : lv_has ls 5 [(3, .int (jI v2)), (0, .ref (h0)), (2, .int (jI x2)), (4, .int (jI x4))] := hl
    refine k_iinc (k := 3) hx hb dX12_nth_18 hl rfl (by decide) rfl h (fun ls r3 h hl => ?_)
    have hl : lv_has ls 5 [(4, .int (jI (x4 + 1))), (3, .int (jI v2)), (0, .ref (h0)), (2, .int (jI x2))] := hl
    refine lv_goto hx hb dX12_nth_21 (tgt := 5) rfl ?_
    exact hR5 _ _ _ _ H locs ls rx2 rv2 r3 hw (lv_sub hl [2, 3, 1, 0] rfl) h

def w_nth (a0 : Int) (a1 : Int) (Q : Int → iST → Prop) (u : iST) : Prop :=
  w_nth_5 Q a1 a0 0 u
set_option maxRecDepth 20000 in
set_option maxHeartbeats 4000000 in
theorem b_nth_s (X : kX p m c cX12_nth 5 s args D ca) (hRf : 0 ≤ R.frames) (hRl : 0 ≤ R.locals) {Q : Int → iST → Prop} (hret : ∀ (v : Int) (u : iST) (H : Heap) (locs : List Loc) (ls : Array Slot) (pc : Nat), inR v → Q v u → kW D ca A h0 ad H0 H locs u → decode cX12_nth pc = .ok (.ireturn, 1) → W p l e R s m args below meth c H locs 0 0 Qf (F0 m pc ls [.int (jI v)])) {a0 a1 : Int} (ra0 : inR a0) (ra1 : inR a1) (hw : kW D ca A h0 ad H0 H locs u) (hl : lv_has ls 5 [(0, .ref h0), (1, .int (jI a0)), (2, .int (jI a1))]) (h : w_nth a0 a1 Q u) : W p l e R s m args below meth c H locs 0 0 Qf (F0 m 0 ls []) := by
  have hx := X.1.1
  have hb := X.1.2.1
  unfold w_nth at h
  refine lv_iload_n hx hb dX12_nth_0 rfl (lv_at hl 1 rfl) ?_
  refine lv_istore_n hx hb dX12_nth_1 rfl hl (by decide) rfl (fun ls hl => ?_)
  have hl : lv_has ls 5 [(3, .int (jI a0)), (0, .ref (h0)), (1, .int (jI a0)), (2, .int (jI a1))] := hl
  refine lv_iconst hx hb dX12_nth_2 (v := jI 0) rfl ?_
  refine lv_istore hx hb dX12_nth_3 hl (by decide) rfl (fun ls hl => ?_)
  have hl : lv_has ls 5 [(4, .int (jI 0)), (3, .int (jI a0)), (0, .ref (h0)), (1, .int (jI a0)), (2, .int (jI a1))] := hl
  exact b_nth_5 X hRf hRl hret ra1 ra0 (by decide) hw (lv_sub hl [2, 4, 1, 0] rfl) h

end
theorem c_nth {l : Launch} {a0 : Int} {a1 : Int} (ra0 : inR a0) (ra1 : inR a1) {Q : Int → iST → Prop} {u : iST} (h : w_nth a0 a1 Q u) : kMI l yX12_nth (.code yX12_nth cX12_nth 5 (some .int) :: wsM) { frames := 0, cells := 0, slots := 0, locals := 0 } [.int (jI a0), .int (jI a1)] Q u := kMI_of rfl (fun _ => Nat.le_of_ble_eq_true rfl) (fun X hRf hRl hret hw hl => b_nth_s X hRf hRl hret ra0 ra1 hw hl h)

/-! isDigit -/
theorem dX12_isDigit_0 : decode cX12_isDigit 0 = .ok (.iload_n 0, 1) := by decide +kernel
theorem dX12_isDigit_1 : decode cX12_isDigit 1 = .ok (.bipush 48, 2) := by decide +kernel
theorem dX12_isDigit_3 : decode cX12_isDigit 3 = .ok (.if_icmp .lt 13, 3) := by decide +kernel
theorem dX12_isDigit_6 : decode cX12_isDigit 6 = .ok (.iload_n 0, 1) := by decide +kernel
theorem dX12_isDigit_7 : decode cX12_isDigit 7 = .ok (.bipush 57, 2) := by decide +kernel
theorem dX12_isDigit_9 : decode cX12_isDigit 9 = .ok (.if_icmp .gt 7, 3) := by decide +kernel
theorem dX12_isDigit_12 : decode cX12_isDigit 12 = .ok (.iconst 1, 1) := by decide +kernel
theorem dX12_isDigit_13 : decode cX12_isDigit 13 = .ok (.goto 4, 3) := by decide +kernel
theorem dX12_isDigit_16 : decode cX12_isDigit 16 = .ok (.iconst 0, 1) := by decide +kernel
theorem dX12_isDigit_17 : decode cX12_isDigit 17 = .ok (.ireturn, 1) := by decide +kernel

section
variable {p : Program} {l : Launch} {e : Env} {R : Room} {s : State} {m : MethodId} {args : Array Value} {below : List Frame} {meth : Method} {c : Code} {H : Heap} {locs : List Loc} {Qf : State → Prop}
variable {ls : Array Slot} {D : va_G} {ca : Nat → ClassId} {A : Nat → Prop} {h0 : Nat} {ad : Nat → Nat} {H0 : Heap} {u : iST}
def w_isDigit (a0 : Int) (Q : Int → iST → Prop) (u : iST) : Prop :=
  br (a0 < 48) (
    zt 0 (Q 0 u)) (
    br (57 < a0) (
      zt 0 (Q 0 u)) (
      zt 1 (Q 1 u)))
set_option maxRecDepth 20000 in
set_option maxHeartbeats 4000000 in
theorem b_isDigit_s (X : kX p m c cX12_isDigit 1 s args D ca) (hRf : 0 ≤ R.frames) (hRl : 0 ≤ R.locals) {Q : Int → iST → Prop} (hret : ∀ (v : Int) (u : iST) (H : Heap) (locs : List Loc) (ls : Array Slot) (pc : Nat), bz v → Q v u → kW D ca A h0 ad H0 H locs u → decode cX12_isDigit pc = .ok (.ireturn, 1) → W p l e R s m args below meth c H locs 0 0 Qf (F0 m pc ls [.int (jI v)])) {a0 : Int} (ra0 : inR a0) (hw : kW D ca A h0 ad H0 H locs u) (hl : lv_has ls 1 [(0, .int (jI a0))]) (h : w_isDigit a0 Q u) : W p l e R s m args below meth c H locs 0 0 Qf (F0 m 0 ls []) := by
  have hx := X.1.1
  have hb := X.1.2.1
  unfold w_isDigit at h
  refine lv_iload_n hx hb dX12_isDigit_0 rfl (lv_at hl 0 rfl) ?_
  refine lv_bipush hx hb dX12_isDigit_1 (v := jI 48) rfl ?_
  refine k_icmp_lt hx hb ra0 (by decide) dX12_isDigit_3 (tgt := 16) rfl h (fun h => ?_) (fun h => ?_)
  · refine lv_iconst hx hb dX12_isDigit_16 (v := jI 0) rfl ?_
    exact hret _ _ _ _ _ _ h.1 h.2 hw dX12_isDigit_17
  · refine lv_iload_n hx hb dX12_isDigit_6 rfl (lv_at hl 0 rfl) ?_
    refine lv_bipush hx hb dX12_isDigit_7 (v := jI 57) rfl ?_
    refine k_icmp_gt hx hb ra0 (by decide) dX12_isDigit_9 (tgt := 16) rfl h (fun h => ?_) (fun h => ?_)
    · refine lv_iconst hx hb dX12_isDigit_16 (v := jI 0) rfl ?_
      exact hret _ _ _ _ _ _ h.1 h.2 hw dX12_isDigit_17
    · refine lv_iconst hx hb dX12_isDigit_12 (v := jI 1) rfl ?_
      refine lv_goto hx hb dX12_isDigit_13 (tgt := 17) rfl ?_
      exact hret _ _ _ _ _ _ h.1 h.2 hw dX12_isDigit_17

end
theorem c_isDigit {l : Launch} {a0 : Int} (ra0 : inR a0) {Q : Int → iST → Prop} {u : iST} (h : w_isDigit a0 Q u) : kSI l yX12_isDigit (.code yX12_isDigit cX12_isDigit 1 (some .boolean) :: wsM) { frames := 0, cells := 0, slots := 0, locals := 0 } [.int (jI a0)] Q u := kSZ_of rfl (fun _ => Nat.le_of_ble_eq_true rfl) (fun X hRf hRl hret hw hl => b_isDigit_s X hRf hRl hret ra0 hw hl h)

/-! isAtom -/
theorem dX12_isAtom_0 : decode cX12_isAtom 0 = .ok (.iload_n 0, 1) := by decide +kernel
theorem dX12_isAtom_1 : decode cX12_isAtom 1 = .ok (.bipush 97, 2) := by decide +kernel
theorem dX12_isAtom_3 : decode cX12_isAtom 3 = .ok (.if_icmp .lt 9, 3) := by decide +kernel
theorem dX12_isAtom_6 : decode cX12_isAtom 6 = .ok (.iload_n 0, 1) := by decide +kernel
theorem dX12_isAtom_7 : decode cX12_isAtom 7 = .ok (.bipush 122, 2) := by decide +kernel
theorem dX12_isAtom_9 : decode cX12_isAtom 9 = .ok (.if_icmp .le 70, 3) := by decide +kernel
theorem dX12_isAtom_12 : decode cX12_isAtom 12 = .ok (.iload_n 0, 1) := by decide +kernel
theorem dX12_isAtom_13 : decode cX12_isAtom 13 = .ok (.invokestatic 368, 3) := by decide +kernel
theorem dX12_isAtom_16 : decode cX12_isAtom 16 = .ok (.ifCond .ne 63, 3) := by decide +kernel
theorem dX12_isAtom_19 : decode cX12_isAtom 19 = .ok (.iload_n 0, 1) := by decide +kernel
theorem dX12_isAtom_20 : decode cX12_isAtom 20 = .ok (.bipush 43, 2) := by decide +kernel
theorem dX12_isAtom_22 : decode cX12_isAtom 22 = .ok (.if_icmp .eq 57, 3) := by decide +kernel
theorem dX12_isAtom_25 : decode cX12_isAtom 25 = .ok (.iload_n 0, 1) := by decide +kernel
theorem dX12_isAtom_26 : decode cX12_isAtom 26 = .ok (.bipush 45, 2) := by decide +kernel
theorem dX12_isAtom_28 : decode cX12_isAtom 28 = .ok (.if_icmp .eq 51, 3) := by decide +kernel
theorem dX12_isAtom_31 : decode cX12_isAtom 31 = .ok (.iload_n 0, 1) := by decide +kernel
theorem dX12_isAtom_32 : decode cX12_isAtom 32 = .ok (.bipush 42, 2) := by decide +kernel
theorem dX12_isAtom_34 : decode cX12_isAtom 34 = .ok (.if_icmp .eq 45, 3) := by decide +kernel
theorem dX12_isAtom_37 : decode cX12_isAtom 37 = .ok (.iload_n 0, 1) := by decide +kernel
theorem dX12_isAtom_38 : decode cX12_isAtom 38 = .ok (.bipush 47, 2) := by decide +kernel
theorem dX12_isAtom_40 : decode cX12_isAtom 40 = .ok (.if_icmp .eq 39, 3) := by decide +kernel
theorem dX12_isAtom_43 : decode cX12_isAtom 43 = .ok (.iload_n 0, 1) := by decide +kernel
theorem dX12_isAtom_44 : decode cX12_isAtom 44 = .ok (.bipush 60, 2) := by decide +kernel
theorem dX12_isAtom_46 : decode cX12_isAtom 46 = .ok (.if_icmp .eq 33, 3) := by decide +kernel
theorem dX12_isAtom_49 : decode cX12_isAtom 49 = .ok (.iload_n 0, 1) := by decide +kernel
theorem dX12_isAtom_50 : decode cX12_isAtom 50 = .ok (.bipush 62, 2) := by decide +kernel
theorem dX12_isAtom_52 : decode cX12_isAtom 52 = .ok (.if_icmp .eq 27, 3) := by decide +kernel
theorem dX12_isAtom_55 : decode cX12_isAtom 55 = .ok (.iload_n 0, 1) := by decide +kernel
theorem dX12_isAtom_56 : decode cX12_isAtom 56 = .ok (.bipush 61, 2) := by decide +kernel
theorem dX12_isAtom_58 : decode cX12_isAtom 58 = .ok (.if_icmp .eq 21, 3) := by decide +kernel
theorem dX12_isAtom_61 : decode cX12_isAtom 61 = .ok (.iload_n 0, 1) := by decide +kernel
theorem dX12_isAtom_62 : decode cX12_isAtom 62 = .ok (.bipush 63, 2) := by decide +kernel
theorem dX12_isAtom_64 : decode cX12_isAtom 64 = .ok (.if_icmp .eq 15, 3) := by decide +kernel
theorem dX12_isAtom_67 : decode cX12_isAtom 67 = .ok (.iload_n 0, 1) := by decide +kernel
theorem dX12_isAtom_68 : decode cX12_isAtom 68 = .ok (.bipush 33, 2) := by decide +kernel
theorem dX12_isAtom_70 : decode cX12_isAtom 70 = .ok (.if_icmp .eq 9, 3) := by decide +kernel
theorem dX12_isAtom_73 : decode cX12_isAtom 73 = .ok (.iload_n 0, 1) := by decide +kernel
theorem dX12_isAtom_74 : decode cX12_isAtom 74 = .ok (.bipush 95, 2) := by decide +kernel
theorem dX12_isAtom_76 : decode cX12_isAtom 76 = .ok (.if_icmp .ne 7, 3) := by decide +kernel
theorem dX12_isAtom_79 : decode cX12_isAtom 79 = .ok (.iconst 1, 1) := by decide +kernel
theorem dX12_isAtom_80 : decode cX12_isAtom 80 = .ok (.goto 4, 3) := by decide +kernel
theorem dX12_isAtom_83 : decode cX12_isAtom 83 = .ok (.iconst 0, 1) := by decide +kernel
theorem dX12_isAtom_84 : decode cX12_isAtom 84 = .ok (.ireturn, 1) := by decide +kernel

section
variable {p : Program} {l : Launch} {e : Env} {R : Room} {s : State} {m : MethodId} {args : Array Value} {below : List Frame} {meth : Method} {c : Code} {H : Heap} {locs : List Loc} {Qf : State → Prop}
variable {ls : Array Slot} {D : va_G} {ca : Nat → ClassId} {A : Nat → Prop} {h0 : Nat} {ad : Nat → Nat} {H0 : Heap} {u : iST}
def w_isAtom_12 (Q : Int → iST → Prop) (x0 : Int) (u : iST) : Prop :=
  w_isDigit x0 (fun v1 u => 
  br (v1 ≠ 0) (
    zt 1 (Q 1 u)) (
    br (x0 = 43) (
      zt 1 (Q 1 u)) (
      br (x0 = 45) (
        zt 1 (Q 1 u)) (
        br (x0 = 42) (
          zt 1 (Q 1 u)) (
          br (x0 = 47) (
            zt 1 (Q 1 u)) (
            br (x0 = 60) (
              zt 1 (Q 1 u)) (
              br (x0 = 62) (
                zt 1 (Q 1 u)) (
                br (x0 = 61) (
                  zt 1 (Q 1 u)) (
                  br (x0 = 63) (
                    zt 1 (Q 1 u)) (
                    br (x0 = 33) (
                      zt 1 (Q 1 u)) (
                      br (x0 ≠ 95) (
                        zt 0 (Q 0 u)) (
                        zt 1 (Q 1 u))))))))))))) u
set_option maxRecDepth 20000 in
set_option maxHeartbeats 4000000 in
theorem b_isAtom_12 (X : kX p m c cX12_isAtom 1 s args D ca) (hRf : 1 ≤ R.frames) (hRl : 20 ≤ R.locals) {Q : Int → iST → Prop} (hret : ∀ (v : Int) (u : iST) (H : Heap) (locs : List Loc) (ls : Array Slot) (pc : Nat), bz v → Q v u → kW D ca A h0 ad H0 H locs u → decode cX12_isAtom pc = .ok (.ireturn, 1) → W p l e R s m args below meth c H locs 0 0 Qf (F0 m pc ls [.int (jI v)])) {x0 : Int} (rx0 : inR x0) (hw : kW D ca A h0 ad H0 H locs u) (hl : lv_has ls 1 [(0, .int (jI x0))]) (h : w_isAtom_12 Q x0 u) : W p l e R s m args below meth c H locs 0 0 Qf (F0 m 12 ls []) := by
  have hx := X.1.1
  have hb := X.1.2.1
  unfold w_isAtom_12 at h
  refine lv_iload_n hx hb dX12_isAtom_12 rfl (lv_at hl 0 rfl) ?_
  refine kcT (n := 1) (c_isDigit rx0 h) G_isDigit E_isDigit X hw (Nat.le_trans (Nat.le_of_ble_eq_true rfl) hRf) (Nat.le_trans (Nat.le_of_ble_eq_true rfl) hRl) rfl hl.1 (Nat.le_of_ble_eq_true rfl) rfl dX12_isAtom_13 (fun v1 u H locs rv1 h hw => ?_)
  refine k_if_ne hx hb rv1 dX12_isAtom_16 (tgt := 79) rfl h (fun h => ?_) (fun h => ?_)
  · refine lv_iconst hx hb dX12_isAtom_79 (v := jI 1) rfl ?_
    refine lv_goto hx hb dX12_isAtom_80 (tgt := 84) rfl ?_
    exact hret _ _ _ _ _ _ h.1 h.2 hw dX12_isAtom_84
  · refine lv_iload_n hx hb dX12_isAtom_19 rfl (lv_at hl 0 rfl) ?_
    refine lv_bipush hx hb dX12_isAtom_20 (v := jI 43) rfl ?_
    refine k_icmp_eq hx hb rx0 (by decide) dX12_isAtom_22 (tgt := 79) rfl h (fun h => ?_) (fun h => ?_)
    · refine lv_iconst hx hb dX12_isAtom_79 (v := jI 1) rfl ?_
      refine lv_goto hx hb dX12_isAtom_80 (tgt := 84) rfl ?_
      exact hret _ _ _ _ _ _ h.1 h.2 hw dX12_isAtom_84
    · refine lv_iload_n hx hb dX12_isAtom_25 rfl (lv_at hl 0 rfl) ?_
      refine lv_bipush hx hb dX12_isAtom_26 (v := jI 45) rfl ?_
      refine k_icmp_eq hx hb rx0 (by decide) dX12_isAtom_28 (tgt := 79) rfl h (fun h => ?_) (fun h => ?_)
      · refine lv_iconst hx hb dX12_isAtom_79 (v := jI 1) rfl ?_
        refine lv_goto hx hb dX12_isAtom_80 (tgt := 84) rfl ?_
        exact hret _ _ _ _ _ _ h.1 h.2 hw dX12_isAtom_84
      · refine lv_iload_n hx hb dX12_isAtom_31 rfl (lv_at hl 0 rfl) ?_
        refine lv_bipush hx hb dX12_isAtom_32 (v := jI 42) rfl ?_
        refine k_icmp_eq hx hb rx0 (by decide) dX12_isAtom_34 (tgt := 79) rfl h (fun h => ?_) (fun h => ?_)
        · refine lv_iconst hx hb dX12_isAtom_79 (v := jI 1) rfl ?_
          refine lv_goto hx hb dX12_isAtom_80 (tgt := 84) rfl ?_
          exact hret _ _ _ _ _ _ h.1 h.2 hw dX12_isAtom_84
        · refine lv_iload_n hx hb dX12_isAtom_37 rfl (lv_at hl 0 rfl) ?_
          refine lv_bipush hx hb dX12_isAtom_38 (v := jI 47) rfl ?_
          refine k_icmp_eq hx hb rx0 (by decide) dX12_isAtom_40 (tgt := 79) rfl h (fun h => ?_) (fun h => ?_)
          · refine lv_iconst hx hb dX12_isAtom_79 (v := jI 1) rfl ?_
            refine lv_goto hx hb dX12_isAtom_80 (tgt := 84) rfl ?_
            exact hret _ _ _ _ _ _ h.1 h.2 hw dX12_isAtom_84
          · refine lv_iload_n hx hb dX12_isAtom_43 rfl (lv_at hl 0 rfl) ?_
            refine lv_bipush hx hb dX12_isAtom_44 (v := jI 60) rfl ?_
            refine k_icmp_eq hx hb rx0 (by decide) dX12_isAtom_46 (tgt := 79) rfl h (fun h => ?_) (fun h => ?_)
            · refine lv_iconst hx hb dX12_isAtom_79 (v := jI 1) rfl ?_
              refine lv_goto hx hb dX12_isAtom_80 (tgt := 84) rfl ?_
              exact hret _ _ _ _ _ _ h.1 h.2 hw dX12_isAtom_84
            · refine lv_iload_n hx hb dX12_isAtom_49 rfl (lv_at hl 0 rfl) ?_
              refine lv_bipush hx hb dX12_isAtom_50 (v := jI 62) rfl ?_
              refine k_icmp_eq hx hb rx0 (by decide) dX12_isAtom_52 (tgt := 79) rfl h (fun h => ?_) (fun h => ?_)
              · refine lv_iconst hx hb dX12_isAtom_79 (v := jI 1) rfl ?_
                refine lv_goto hx hb dX12_isAtom_80 (tgt := 84) rfl ?_
                exact hret _ _ _ _ _ _ h.1 h.2 hw dX12_isAtom_84
              · refine lv_iload_n hx hb dX12_isAtom_55 rfl (lv_at hl 0 rfl) ?_
                refine lv_bipush hx hb dX12_isAtom_56 (v := jI 61) rfl ?_
                refine k_icmp_eq hx hb rx0 (by decide) dX12_isAtom_58 (tgt := 79) rfl h (fun h => ?_) (fun h => ?_)
                · refine lv_iconst hx hb dX12_isAtom_79 (v := jI 1) rfl ?_
                  refine lv_goto hx hb dX12_isAtom_80 (tgt := 84) rfl ?_
                  exact hret _ _ _ _ _ _ h.1 h.2 hw dX12_isAtom_84
                · refine lv_iload_n hx hb dX12_isAtom_61 rfl (lv_at hl 0 rfl) ?_
                  refine lv_bipush hx hb dX12_isAtom_62 (v := jI 63) rfl ?_
                  refine k_icmp_eq hx hb rx0 (by decide) dX12_isAtom_64 (tgt := 79) rfl h (fun h => ?_) (fun h => ?_)
                  · refine lv_iconst hx hb dX12_isAtom_79 (v := jI 1) rfl ?_
                    refine lv_goto hx hb dX12_isAtom_80 (tgt := 84) rfl ?_
                    exact hret _ _ _ _ _ _ h.1 h.2 hw dX12_isAtom_84
                  · refine lv_iload_n hx hb dX12_isAtom_67 rfl (lv_at hl 0 rfl) ?_
                    refine lv_bipush hx hb dX12_isAtom_68 (v := jI 33) rfl ?_
                    refine k_icmp_eq hx hb rx0 (by decide) dX12_isAtom_70 (tgt := 79) rfl h (fun h => ?_) (fun h => ?_)
                    · refine lv_iconst hx hb dX12_isAtom_79 (v := jI 1) rfl ?_
                      refine lv_goto hx hb dX12_isAtom_80 (tgt := 84) rfl ?_
                      exact hret _ _ _ _ _ _ h.1 h.2 hw dX12_isAtom_84
                    · refine lv_iload_n hx hb dX12_isAtom_73 rfl (lv_at hl 0 rfl) ?_
                      refine lv_bipush hx hb dX12_isAtom_74 (v := jI 95) rfl ?_
                      refine k_icmp_ne hx hb rx0 (by decide) dX12_isAtom_76 (tgt := 83) rfl h (fun h => ?_) (fun h => ?_)
                      · refine lv_iconst hx hb dX12_isAtom_83 (v := jI 0) rfl ?_
                        exact hret _ _ _ _ _ _ h.1 h.2 hw dX12_isAtom_84
                      · refine lv_iconst hx hb dX12_isAtom_79 (v := jI 1) rfl ?_
                        refine lv_goto hx hb dX12_isAtom_80 (tgt := 84) rfl ?_
                        exact hret _ _ _ _ _ _ h.1 h.2 hw dX12_isAtom_84

def w_isAtom (a0 : Int) (Q : Int → iST → Prop) (u : iST) : Prop :=
  br (a0 < 97) (
    w_isAtom_12 Q a0 u) (
    br (a0 ≤ 122) (
      zt 1 (Q 1 u)) (
      w_isAtom_12 Q a0 u))
set_option maxRecDepth 20000 in
set_option maxHeartbeats 4000000 in
theorem b_isAtom_s (X : kX p m c cX12_isAtom 1 s args D ca) (hRf : 1 ≤ R.frames) (hRl : 20 ≤ R.locals) {Q : Int → iST → Prop} (hret : ∀ (v : Int) (u : iST) (H : Heap) (locs : List Loc) (ls : Array Slot) (pc : Nat), bz v → Q v u → kW D ca A h0 ad H0 H locs u → decode cX12_isAtom pc = .ok (.ireturn, 1) → W p l e R s m args below meth c H locs 0 0 Qf (F0 m pc ls [.int (jI v)])) {a0 : Int} (ra0 : inR a0) (hw : kW D ca A h0 ad H0 H locs u) (hl : lv_has ls 1 [(0, .int (jI a0))]) (h : w_isAtom a0 Q u) : W p l e R s m args below meth c H locs 0 0 Qf (F0 m 0 ls []) := by
  have hx := X.1.1
  have hb := X.1.2.1
  unfold w_isAtom at h
  refine lv_iload_n hx hb dX12_isAtom_0 rfl (lv_at hl 0 rfl) ?_
  refine lv_bipush hx hb dX12_isAtom_1 (v := jI 97) rfl ?_
  refine k_icmp_lt hx hb ra0 (by decide) dX12_isAtom_3 (tgt := 12) rfl h (fun h => ?_) (fun h => ?_)
  · exact b_isAtom_12 X hRf hRl hret ra0 hw hl h
  · refine lv_iload_n hx hb dX12_isAtom_6 rfl (lv_at hl 0 rfl) ?_
    refine lv_bipush hx hb dX12_isAtom_7 (v := jI 122) rfl ?_
    refine k_icmp_le hx hb ra0 (by decide) dX12_isAtom_9 (tgt := 79) rfl h (fun h => ?_) (fun h => ?_)
    · refine lv_iconst hx hb dX12_isAtom_79 (v := jI 1) rfl ?_
      refine lv_goto hx hb dX12_isAtom_80 (tgt := 84) rfl ?_
      exact hret _ _ _ _ _ _ h.1 h.2 hw dX12_isAtom_84
    · exact b_isAtom_12 X hRf hRl hret ra0 hw hl h

end
theorem c_isAtom {l : Launch} {a0 : Int} (ra0 : inR a0) {Q : Int → iST → Prop} {u : iST} (h : w_isAtom a0 Q u) : kSI l yX12_isAtom (.code yX12_isAtom cX12_isAtom 1 (some .boolean) :: wsM) { frames := 1, cells := 0, slots := 0, locals := 20 } [.int (jI a0)] Q u := kSZ_of rfl (fun _ => Nat.le_of_ble_eq_true rfl) (fun X hRf hRl hret hw hl => b_isAtom_s X hRf hRl hret ra0 hw hl h)

/-! skip -/
theorem dX12_skip_0 : decode cX12_skip 0 = .ok (.iconst 1, 1) := by decide +kernel
theorem dX12_skip_1 : decode cX12_skip 1 = .ok (.istore_n 1, 1) := by decide +kernel
theorem dX12_skip_2 : decode cX12_skip 2 = .ok (.iload_n 1, 1) := by decide +kernel
theorem dX12_skip_3 : decode cX12_skip 3 = .ok (.ifCond .eq 112, 3) := by decide +kernel
theorem dX12_skip_6 : decode cX12_skip 6 = .ok (.aload_n 0, 1) := by decide +kernel
theorem dX12_skip_7 : decode cX12_skip 7 = .ok (.getfield 371, 3) := by decide +kernel
theorem dX12_skip_10 : decode cX12_skip 10 = .ok (.aload_n 0, 1) := by decide +kernel
theorem dX12_skip_11 : decode cX12_skip 11 = .ok (.getfield 374, 3) := by decide +kernel
theorem dX12_skip_14 : decode cX12_skip 14 = .ok (.if_icmp .ge 101, 3) := by decide +kernel
theorem dX12_skip_17 : decode cX12_skip 17 = .ok (.aload_n 0, 1) := by decide +kernel
theorem dX12_skip_18 : decode cX12_skip 18 = .ok (.getfield 44, 3) := by decide +kernel
theorem dX12_skip_21 : decode cX12_skip 21 = .ok (.aload_n 0, 1) := by decide +kernel
theorem dX12_skip_22 : decode cX12_skip 22 = .ok (.getfield 371, 3) := by decide +kernel
theorem dX12_skip_25 : decode cX12_skip 25 = .ok (.iaload, 1) := by decide +kernel
theorem dX12_skip_26 : decode cX12_skip 26 = .ok (.bipush 59, 2) := by decide +kernel
theorem dX12_skip_28 : decode cX12_skip 28 = .ok (.if_icmp .ne 41, 3) := by decide +kernel
theorem dX12_skip_31 : decode cX12_skip 31 = .ok (.aload_n 0, 1) := by decide +kernel
theorem dX12_skip_32 : decode cX12_skip 32 = .ok (.getfield 371, 3) := by decide +kernel
theorem dX12_skip_35 : decode cX12_skip 35 = .ok (.aload_n 0, 1) := by decide +kernel
theorem dX12_skip_36 : decode cX12_skip 36 = .ok (.getfield 374, 3) := by decide +kernel
theorem dX12_skip_39 : decode cX12_skip 39 = .ok (.if_icmp .ge (-37), 3) := by decide +kernel
theorem dX12_skip_42 : decode cX12_skip 42 = .ok (.aload_n 0, 1) := by decide +kernel
theorem dX12_skip_43 : decode cX12_skip 43 = .ok (.getfield 44, 3) := by decide +kernel
theorem dX12_skip_46 : decode cX12_skip 46 = .ok (.aload_n 0, 1) := by decide +kernel
theorem dX12_skip_47 : decode cX12_skip 47 = .ok (.getfield 371, 3) := by decide +kernel
theorem dX12_skip_50 : decode cX12_skip 50 = .ok (.iaload, 1) := by decide +kernel
theorem dX12_skip_51 : decode cX12_skip 51 = .ok (.bipush 10, 2) := by decide +kernel
theorem dX12_skip_53 : decode cX12_skip 53 = .ok (.if_icmp .eq (-51), 3) := by decide +kernel
theorem dX12_skip_56 : decode cX12_skip 56 = .ok (.aload_n 0, 1) := by decide +kernel
theorem dX12_skip_57 : decode cX12_skip 57 = .ok (.dup, 1) := by decide +kernel
theorem dX12_skip_58 : decode cX12_skip 58 = .ok (.getfield 371, 3) := by decide +kernel
theorem dX12_skip_61 : decode cX12_skip 61 = .ok (.iconst 1, 1) := by decide +kernel
theorem dX12_skip_62 : decode cX12_skip 62 = .ok (.iadd, 1) := by decide +kernel
theorem dX12_skip_63 : decode cX12_skip 63 = .ok (.putfield 371, 3) := by decide +kernel
theorem dX12_skip_66 : decode cX12_skip 66 = .ok (.goto (-35), 3) := by decide +kernel
theorem dX12_skip_69 : decode cX12_skip 69 = .ok (.aload_n 0, 1) := by decide +kernel
theorem dX12_skip_70 : decode cX12_skip 70 = .ok (.getfield 44, 3) := by decide +kernel
theorem dX12_skip_73 : decode cX12_skip 73 = .ok (.aload_n 0, 1) := by decide +kernel
theorem dX12_skip_74 : decode cX12_skip 74 = .ok (.getfield 371, 3) := by decide +kernel
theorem dX12_skip_77 : decode cX12_skip 77 = .ok (.iaload, 1) := by decide +kernel
theorem dX12_skip_78 : decode cX12_skip 78 = .ok (.bipush 32, 2) := by decide +kernel
theorem dX12_skip_80 : decode cX12_skip 80 = .ok (.if_icmp .eq 17, 3) := by decide +kernel
theorem dX12_skip_83 : decode cX12_skip 83 = .ok (.aload_n 0, 1) := by decide +kernel
theorem dX12_skip_84 : decode cX12_skip 84 = .ok (.getfield 44, 3) := by decide +kernel
theorem dX12_skip_87 : decode cX12_skip 87 = .ok (.aload_n 0, 1) := by decide +kernel
theorem dX12_skip_88 : decode cX12_skip 88 = .ok (.getfield 371, 3) := by decide +kernel
theorem dX12_skip_91 : decode cX12_skip 91 = .ok (.iaload, 1) := by decide +kernel
theorem dX12_skip_92 : decode cX12_skip 92 = .ok (.bipush 10, 2) := by decide +kernel
theorem dX12_skip_94 : decode cX12_skip 94 = .ok (.if_icmp .ne 16, 3) := by decide +kernel
theorem dX12_skip_97 : decode cX12_skip 97 = .ok (.aload_n 0, 1) := by decide +kernel
theorem dX12_skip_98 : decode cX12_skip 98 = .ok (.dup, 1) := by decide +kernel
theorem dX12_skip_99 : decode cX12_skip 99 = .ok (.getfield 371, 3) := by decide +kernel
theorem dX12_skip_102 : decode cX12_skip 102 = .ok (.iconst 1, 1) := by decide +kernel
theorem dX12_skip_103 : decode cX12_skip 103 = .ok (.iadd, 1) := by decide +kernel
theorem dX12_skip_104 : decode cX12_skip 104 = .ok (.putfield 371, 3) := by decide +kernel
theorem dX12_skip_107 : decode cX12_skip 107 = .ok (.goto (-105), 3) := by decide +kernel
theorem dX12_skip_110 : decode cX12_skip 110 = .ok (.iconst 0, 1) := by decide +kernel
theorem dX12_skip_111 : decode cX12_skip 111 = .ok (.istore_n 1, 1) := by decide +kernel
theorem dX12_skip_112 : decode cX12_skip 112 = .ok (.goto (-110), 3) := by decide +kernel
theorem dX12_skip_115 : decode cX12_skip 115 = .ok (.return_, 1) := by decide +kernel

section
variable {p : Program} {l : Launch} {e : Env} {R : Room} {s : State} {m : MethodId} {args : Array Value} {below : List Frame} {meth : Method} {c : Code} {H : Heap} {locs : List Loc} {Qf : State → Prop}
variable {ls : Array Slot} {D : va_G} {ca : Nat → ClassId} {A : Nat → Prop} {h0 : Nat} {ad : Nat → Nat} {H0 : Heap} {u : iST}
def w_skip_97 (R2 : Int → iST → Prop) (Q : iST → Prop) (x1 : Int) (u : iST) : Prop :=
  rd (u.1 23) (fun v7 => 
  ov (v7 + 1) (
  sw (iI u 23 (v7 + 1)) (fun u => 
  R2 x1 u)))
set_option maxRecDepth 20000 in
set_option maxHeartbeats 4000000 in
theorem b_skip_97 (X : kX p m c cX12_skip 2 s args D ca) (hRf : 0 ≤ R.frames) (hRl : 0 ≤ R.locals) {Q : iST → Prop} (hret : ∀ (u : iST) (H : Heap) (locs : List Loc) (ls : Array Slot) (pc : Nat), Q u → kW D ca A h0 ad H0 H locs u → decode cX12_skip pc = .ok (.return_, 1) → W p l e R s m args below meth c H locs 0 0 Qf (F0 m pc ls [])) {R2 : Int → iST → Prop} (hR2 : ∀ (x1 : Int) (u : iST) (H : Heap) (locs : List Loc) (ls : Array Slot), inR x1 → kW D ca A h0 ad H0 H locs u → lv_has ls 2 [(0, .ref h0), (1, .int (jI x1))] → R2 x1 u → W p l e R s m args below meth c H locs 0 0 Qf (F0 m 2 ls [])) {x1 : Int} (rx1 : inR x1) (hw : kW D ca A h0 ad H0 H locs u) (hl : lv_has ls 2 [(0, .ref h0), (1, .int (jI x1))]) (h : w_skip_97 R2 Q x1 u) : W p l e R s m args below meth c H locs 0 0 Qf (F0 m 97 ls []) := by
  have hx := X.1.1
  have hb := X.1.2.1
  unfold w_skip_97 at h
  refine lv_aload_n hx hb dX12_skip_97 rfl (lv_at hl 0 rfl) ?_
  refine lv_dup hx hb dX12_skip_98 rfl ?_
  refine gS 23 371 (by decide) L_23 (fun _ _ => mF_23) rfl X hw dX12_skip_99 h (fun v7 rv7 h => ?_)
  refine lv_iconst hx hb dX12_skip_102 (v := jI 1) rfl ?_
  refine k_iadd hx hb dX12_skip_103 h (fun r8 h => ?_)
  refine pS 23 371 (by decide) L_23 rfl rfl rfl (fun _ _ _ _ _ => mSI_23) (by decide) X hw r8 dX12_skip_104 h (fun H locs u hw h => ?_)
  refine lv_goto hx hb dX12_skip_107 (tgt := 2) rfl ?_
  exact hR2 _ _ H locs ls rx1 hw hl h

def w_skip_31b (R2 : Int → iST → Prop) (R31 : Int → iST → Prop) (Q : iST → Prop) (x1 : Int) (u : iST) : Prop :=
  rd (u.1 23) (fun v11 => 
  rd (u.1 14) (fun v12 => 
  br (v12 ≤ v11) (
    R2 x1 u) (
    rd (u.1 23) (fun v13 => 
    bd v13 3000 (rd (u.2.1 13 v13) (fun v14 => 
    br (v14 = 10) (
      R2 x1 u) (
      rd (u.1 23) (fun v15 => 
      ov (v15 + 1) (
      sw (iI u 23 (v15 + 1)) (fun u => 
      R31 x1 u))))))))))
def w_skip_31 (R2 : Int → iST → Prop) (Q : iST → Prop) (x1 : Int) (u : iST) : Prop := ∀ R31 : Int → iST → Prop, (∀ (x1 : Int) (u : iST), w_skip_31b R2 R31 Q x1 u → R31 x1 u) → R31 x1 u
set_option maxRecDepth 20000 in
set_option maxHeartbeats 4000000 in
theorem b_skip_31 (X : kX p m c cX12_skip 2 s args D ca) (hRf : 0 ≤ R.frames) (hRl : 0 ≤ R.locals) {Q : iST → Prop} (hret : ∀ (u : iST) (H : Heap) (locs : List Loc) (ls : Array Slot) (pc : Nat), Q u → kW D ca A h0 ad H0 H locs u → decode cX12_skip pc = .ok (.return_, 1) → W p l e R s m args below meth c H locs 0 0 Qf (F0 m pc ls [])) {R2 : Int → iST → Prop} (hR2 : ∀ (x1 : Int) (u : iST) (H : Heap) (locs : List Loc) (ls : Array Slot), inR x1 → kW D ca A h0 ad H0 H locs u → lv_has ls 2 [(0, .ref h0), (1, .int (jI x1))] → R2 x1 u → W p l e R s m args below meth c H locs 0 0 Qf (F0 m 2 ls [])) {x1 : Int} (rx1 : inR x1) (hw : kW D ca A h0 ad H0 H locs u) (hl : lv_has ls 2 [(0, .ref h0), (1, .int (jI x1))]) (h : w_skip_31 R2 Q x1 u) : W p l e R s m args below meth c H locs 0 0 Qf (F0 m 31 ls []) := by
  refine h (fun x1 u => ∀ (H : Heap) (locs : List Loc) (ls : Array Slot), inR x1 → kW D ca A h0 ad H0 H locs u → lv_has ls 2 [(0, .ref h0), (1, .int (jI x1))] → W p l e R s m args below meth c H locs 0 0 Qf (F0 m 31 ls [])) ?_ H locs ls rx1 hw hl
  clear h hl hw rx1
  intro x1 u h H locs ls rx1 hw hl
  have hR31 : ∀ (x1 : Int) (u : iST) (H : Heap) (locs : List Loc) (ls : Array Slot), inR x1 → kW D ca A h0 ad H0 H locs u → lv_has ls 2 [(0, .ref h0), (1, .int (jI x1))] → (fun (x1 : Int) u => ∀ (H : Heap) (locs : List Loc) (ls : Array Slot), inR x1 → kW D ca A h0 ad H0 H locs u → lv_has ls 2 [(0, .ref h0), (1, .int (jI x1))] → W p l e R s m args below meth c H locs 0 0 Qf (F0 m 31 ls [])) x1 u → W p l e R s m args below meth c H locs 0 0 Qf (F0 m 31 ls []) := fun x1 u H locs ls rx1 hw hl h => h H locs ls rx1 hw hl
  have hx := X.1.1
  have hb := X.1.2.1
  unfold w_skip_31b at h
  refine lv_aload_n hx hb dX12_skip_31 rfl (lv_at hl 0 rfl) ?_
  refine gS 23 371 (by decide) L_23 (fun _ _ => mF_23) rfl X hw dX12_skip_32 h (fun v11 rv11 h => ?_)
  refine lv_aload_n hx hb dX12_skip_35 rfl (lv_at hl 0 rfl) ?_
  refine gS 14 374 (by decide) L_14 (fun _ _ => mF_14) rfl X hw dX12_skip_36 h (fun v12 rv12 h => ?_)
  refine k_icmp_ge hx hb rv11 rv12 dX12_skip_39 (tgt := 2) rfl h (fun h => ?_) (fun h => ?_)
  · exact hR2 _ _ H locs ls rx1 hw hl h
  · refine lv_aload_n hx hb dX12_skip_42 rfl (lv_at hl 0 rfl) ?_
    refine gA 13 44 (by decide) L_13 (fun _ _ => mF_13) rfl X hw dX12_skip_43 ?_
    refine lv_aload_n hx hb dX12_skip_46 rfl (lv_at hl 0 rfl) ?_
    refine gS 23 371 (by decide) L_23 (fun _ _ => mF_23) rfl X hw dX12_skip_47 h (fun v13 rv13 h => ?_)
    refine aL 13 11 10 3000 (fun _ _ _ _ => mG_13) (fun _ => rfl) X hw rv13 dX12_skip_50 rfl h (fun v14 rv14 h => ?_)
    refine lv_bipush hx hb dX12_skip_51 (v := jI 10) rfl ?_
    refine k_icmp_eq hx hb rv14 (by decide) dX12_skip_53 (tgt := 2) rfl h (fun h => ?_) (fun h => ?_)
    · exact hR2 _ _ H locs ls rx1 hw hl h
    · refine lv_aload_n hx hb dX12_skip_56 rfl (lv_at hl 0 rfl) ?_
      refine lv_dup hx hb dX12_skip_57 rfl ?_
      refine gS 23 371 (by decide) L_23 (fun _ _ => mF_23) rfl X hw dX12_skip_58 h (fun v15 rv15 h => ?_)
      refine lv_iconst hx hb dX12_skip_61 (v := jI 1) rfl ?_
      refine k_iadd hx hb dX12_skip_62 h (fun r16 h => ?_)
      refine pS 23 371 (by decide) L_23 rfl rfl rfl (fun _ _ _ _ _ => mSI_23) (by decide) X hw r16 dX12_skip_63 h (fun H locs u hw h => ?_)
      refine lv_goto hx hb dX12_skip_66 (tgt := 31) rfl ?_
      exact hR31 _ _ H locs ls rx1 hw hl h

def w_skip_2b (R2 : Int → iST → Prop) (Q : iST → Prop) (x1 : Int) (u : iST) : Prop :=
  br (x1 = 0) (
    Q u) (
    rd (u.1 23) (fun v1 => 
    rd (u.1 14) (fun v2 => 
    br (v2 ≤ v1) (
      Q u) (
      rd (u.1 23) (fun v3 => 
      bd v3 3000 (rd (u.2.1 13 v3) (fun v4 => 
      br (v4 ≠ 59) (
        rd (u.1 23) (fun v5 => 
        bd v5 3000 (rd (u.2.1 13 v5) (fun v6 => 
        br (v6 = 32) (
          w_skip_97 R2 Q x1 u) (
          rd (u.1 23) (fun v9 => 
          bd v9 3000 (rd (u.2.1 13 v9) (fun v10 => 
          br (v10 ≠ 10) (
            R2 0 u) (
            w_skip_97 R2 Q x1 u))))))))) (
        w_skip_31 R2 Q x1 u))))))))
def w_skip_2 (Q : iST → Prop) (x1 : Int) (u : iST) : Prop := ∀ R2 : Int → iST → Prop, (∀ (x1 : Int) (u : iST), w_skip_2b R2 Q x1 u → R2 x1 u) → R2 x1 u
set_option maxRecDepth 20000 in
set_option maxHeartbeats 4000000 in
theorem b_skip_2 (X : kX p m c cX12_skip 2 s args D ca) (hRf : 0 ≤ R.frames) (hRl : 0 ≤ R.locals) {Q : iST → Prop} (hret : ∀ (u : iST) (H : Heap) (locs : List Loc) (ls : Array Slot) (pc : Nat), Q u → kW D ca A h0 ad H0 H locs u → decode cX12_skip pc = .ok (.return_, 1) → W p l e R s m args below meth c H locs 0 0 Qf (F0 m pc ls [])) {x1 : Int} (rx1 : inR x1) (hw : kW D ca A h0 ad H0 H locs u) (hl : lv_has ls 2 [(0, .ref h0), (1, .int (jI x1))]) (h : w_skip_2 Q x1 u) : W p l e R s m args below meth c H locs 0 0 Qf (F0 m 2 ls []) := by
  refine h (fun x1 u => ∀ (H : Heap) (locs : List Loc) (ls : Array Slot), inR x1 → kW D ca A h0 ad H0 H locs u → lv_has ls 2 [(0, .ref h0), (1, .int (jI x1))] → W p l e R s m args below meth c H locs 0 0 Qf (F0 m 2 ls [])) ?_ H locs ls rx1 hw hl
  clear h hl hw rx1
  intro x1 u h H locs ls rx1 hw hl
  have hR2 : ∀ (x1 : Int) (u : iST) (H : Heap) (locs : List Loc) (ls : Array Slot), inR x1 → kW D ca A h0 ad H0 H locs u → lv_has ls 2 [(0, .ref h0), (1, .int (jI x1))] → (fun (x1 : Int) u => ∀ (H : Heap) (locs : List Loc) (ls : Array Slot), inR x1 → kW D ca A h0 ad H0 H locs u → lv_has ls 2 [(0, .ref h0), (1, .int (jI x1))] → W p l e R s m args below meth c H locs 0 0 Qf (F0 m 2 ls [])) x1 u → W p l e R s m args below meth c H locs 0 0 Qf (F0 m 2 ls []) := fun x1 u H locs ls rx1 hw hl h => h H locs ls rx1 hw hl
  have hx := X.1.1
  have hb := X.1.2.1
  unfold w_skip_2b at h
  refine lv_iload_n hx hb dX12_skip_2 rfl (lv_at hl 1 rfl) ?_
  refine k_if_eq hx hb rx1 dX12_skip_3 (tgt := 115) rfl h (fun h => ?_) (fun h => ?_)
  · exact hret _ _ _ _ _ h hw dX12_skip_115
  · refine lv_aload_n hx hb dX12_skip_6 rfl (lv_at hl 0 rfl) ?_
    refine gS 23 371 (by decide) L_23 (fun _ _ => mF_23) rfl X hw dX12_skip_7 h (fun v1 rv1 h => ?_)
    refine lv_aload_n hx hb dX12_skip_10 rfl (lv_at hl 0 rfl) ?_
    refine gS 14 374 (by decide) L_14 (fun _ _ => mF_14) rfl X hw dX12_skip_11 h (fun v2 rv2 h => ?_)
    refine k_icmp_ge hx hb rv1 rv2 dX12_skip_14 (tgt := 115) rfl h (fun h => ?_) (fun h => ?_)
    · exact hret _ _ _ _ _ h hw dX12_skip_115
    · refine lv_aload_n hx hb dX12_skip_17 rfl (lv_at hl 0 rfl) ?_
      refine gA 13 44 (by decide) L_13 (fun _ _ => mF_13) rfl X hw dX12_skip_18 ?_
      refine lv_aload_n hx hb dX12_skip_21 rfl (lv_at hl 0 rfl) ?_
      refine gS 23 371 (by decide) L_23 (fun _ _ => mF_23) rfl X hw dX12_skip_22 h (fun v3 rv3 h => ?_)
      refine aL 13 11 10 3000 (fun _ _ _ _ => mG_13) (fun _ => rfl) X hw rv3 dX12_skip_25 rfl h (fun v4 rv4 h => ?_)
      refine lv_bipush hx hb dX12_skip_26 (v := jI 59) rfl ?_
      refine k_icmp_ne hx hb rv4 (by decide) dX12_skip_28 (tgt := 69) rfl h (fun h => ?_) (fun h => ?_)
      · refine lv_aload_n hx hb dX12_skip_69 rfl (lv_at hl 0 rfl) ?_
        refine gA 13 44 (by decide) L_13 (fun _ _ => mF_13) rfl X hw dX12_skip_70 ?_
        refine lv_aload_n hx hb dX12_skip_73 rfl (lv_at hl 0 rfl) ?_
        refine gS 23 371 (by decide) L_23 (fun _ _ => mF_23) rfl X hw dX12_skip_74 h (fun v5 rv5 h => ?_)
        refine aL 13 11 10 3000 (fun _ _ _ _ => mG_13) (fun _ => rfl) X hw rv5 dX12_skip_77 rfl h (fun v6 rv6 h => ?_)
        refine lv_bipush hx hb dX12_skip_78 (v := jI 32) rfl ?_
        refine k_icmp_eq hx hb rv6 (by decide) dX12_skip_80 (tgt := 97) rfl h (fun h => ?_) (fun h => ?_)
        · exact b_skip_97 X hRf hRl hret hR2 rx1 hw hl h
        · refine lv_aload_n hx hb dX12_skip_83 rfl (lv_at hl 0 rfl) ?_
          refine gA 13 44 (by decide) L_13 (fun _ _ => mF_13) rfl X hw dX12_skip_84 ?_
          refine lv_aload_n hx hb dX12_skip_87 rfl (lv_at hl 0 rfl) ?_
          refine gS 23 371 (by decide) L_23 (fun _ _ => mF_23) rfl X hw dX12_skip_88 h (fun v9 rv9 h => ?_)
          refine aL 13 11 10 3000 (fun _ _ _ _ => mG_13) (fun _ => rfl) X hw rv9 dX12_skip_91 rfl h (fun v10 rv10 h => ?_)
          refine lv_bipush hx hb dX12_skip_92 (v := jI 10) rfl ?_
          refine k_icmp_ne hx hb rv10 (by decide) dX12_skip_94 (tgt := 110) rfl h (fun h => ?_) (fun h => ?_)
          · refine lv_iconst hx hb dX12_skip_110 (v := jI 0) rfl ?_
            refine lv_istore_n hx hb dX12_skip_111 rfl hl (by decide) rfl (fun ls hl => ?_)
            have hl : lv_has ls 2 [(1, .int (jI 0)), (0, .ref (h0))] := hl
            refine lv_goto hx hb dX12_skip_112 (tgt := 2) rfl ?_
            exact hR2 _ _ H locs ls (by decide) hw (lv_sub hl [1, 0] rfl) h
          · exact b_skip_97 X hRf hRl hret hR2 rx1 hw hl h
      · exact b_skip_31 X hRf hRl hret hR2 rx1 hw hl h

def w_skip (Q : iST → Prop) (u : iST) : Prop :=
  w_skip_2 Q 1 u
set_option maxRecDepth 20000 in
set_option maxHeartbeats 4000000 in
theorem b_skip_s (X : kX p m c cX12_skip 2 s args D ca) (hRf : 0 ≤ R.frames) (hRl : 0 ≤ R.locals) {Q : iST → Prop} (hret : ∀ (u : iST) (H : Heap) (locs : List Loc) (ls : Array Slot) (pc : Nat), Q u → kW D ca A h0 ad H0 H locs u → decode cX12_skip pc = .ok (.return_, 1) → W p l e R s m args below meth c H locs 0 0 Qf (F0 m pc ls [])) (hw : kW D ca A h0 ad H0 H locs u) (hl : lv_has ls 2 [(0, .ref h0)]) (h : w_skip Q u) : W p l e R s m args below meth c H locs 0 0 Qf (F0 m 0 ls []) := by
  have hx := X.1.1
  have hb := X.1.2.1
  unfold w_skip at h
  refine lv_iconst hx hb dX12_skip_0 (v := jI 1) rfl ?_
  refine lv_istore_n hx hb dX12_skip_1 rfl hl (by decide) rfl (fun ls hl => ?_)
  have hl : lv_has ls 2 [(1, .int (jI 1)), (0, .ref (h0))] := hl
  exact b_skip_2 X hRf hRl hret (by decide) hw (lv_sub hl [1, 0] rfl) h

end
theorem c_skip {l : Launch} {Q : iST → Prop} {u : iST} (h : w_skip Q u) : kMV l yX12_skip (.code yX12_skip cX12_skip 2 none :: wsM) { frames := 0, cells := 0, slots := 0, locals := 0 } [] Q u := kMV_of rfl (fun _ => Nat.le_of_ble_eq_true rfl) (fun X hRf hRl hret hw hl => b_skip_s X hRf hRl hret hw hl h)

/-! bad -/
theorem dX12_bad_0 : decode cX12_bad 0 = .ok (.aload_n 0, 1) := by decide +kernel
theorem dX12_bad_1 : decode cX12_bad 1 = .ok (.getfield 377, 3) := by decide +kernel
theorem dX12_bad_4 : decode cX12_bad 4 = .ok (.ifCond .eq 4, 3) := by decide +kernel
theorem dX12_bad_7 : decode cX12_bad 7 = .ok (.return_, 1) := by decide +kernel
theorem dX12_bad_8 : decode cX12_bad 8 = .ok (.aload_n 0, 1) := by decide +kernel
theorem dX12_bad_9 : decode cX12_bad 9 = .ok (.iload_n 1, 1) := by decide +kernel
theorem dX12_bad_10 : decode cX12_bad 10 = .ok (.putfield 377, 3) := by decide +kernel
theorem dX12_bad_13 : decode cX12_bad 13 = .ok (.aload_n 0, 1) := by decide +kernel
theorem dX12_bad_14 : decode cX12_bad 14 = .ok (.iload_n 2, 1) := by decide +kernel
theorem dX12_bad_15 : decode cX12_bad 15 = .ok (.putfield 59, 3) := by decide +kernel
theorem dX12_bad_18 : decode cX12_bad 18 = .ok (.return_, 1) := by decide +kernel

section
variable {p : Program} {l : Launch} {e : Env} {R : Room} {s : State} {m : MethodId} {args : Array Value} {below : List Frame} {meth : Method} {c : Code} {H : Heap} {locs : List Loc} {Qf : State → Prop}
variable {ls : Array Slot} {D : va_G} {ca : Nat → ClassId} {A : Nat → Prop} {h0 : Nat} {ad : Nat → Nat} {H0 : Heap} {u : iST}
def w_bad (a0 : Int) (a1 : Int) (Q : iST → Prop) (u : iST) : Prop :=
  rd (u.1 24) (fun v1 => 
  br (v1 = 0) (
    sw (iI u 24 a0) (fun u => 
    sw (iI u 25 a1) (fun u => 
    Q u))) (
    Q u))
set_option maxRecDepth 20000 in
set_option maxHeartbeats 4000000 in
theorem b_bad_s (X : kX p m c cX12_bad 3 s args D ca) (hRf : 0 ≤ R.frames) (hRl : 0 ≤ R.locals) {Q : iST → Prop} (hret : ∀ (u : iST) (H : Heap) (locs : List Loc) (ls : Array Slot) (pc : Nat), Q u → kW D ca A h0 ad H0 H locs u → decode cX12_bad pc = .ok (.return_, 1) → W p l e R s m args below meth c H locs 0 0 Qf (F0 m pc ls [])) {a0 a1 : Int} (ra0 : inR a0) (ra1 : inR a1) (hw : kW D ca A h0 ad H0 H locs u) (hl : lv_has ls 3 [(0, .ref h0), (1, .int (jI a0)), (2, .int (jI a1))]) (h : w_bad a0 a1 Q u) : W p l e R s m args below meth c H locs 0 0 Qf (F0 m 0 ls []) := by
  have hx := X.1.1
  have hb := X.1.2.1
  unfold w_bad at h
  refine lv_aload_n hx hb dX12_bad_0 rfl (lv_at hl 0 rfl) ?_
  refine gS 24 377 (by decide) L_24 (fun _ _ => mF_24) rfl X hw dX12_bad_1 h (fun v1 rv1 h => ?_)
  refine k_if_eq hx hb rv1 dX12_bad_4 (tgt := 8) rfl h (fun h => ?_) (fun h => ?_)
  · refine lv_aload_n hx hb dX12_bad_8 rfl (lv_at hl 0 rfl) ?_
    refine lv_iload_n hx hb dX12_bad_9 rfl (lv_at hl 1 rfl) ?_
    refine pS 24 377 (by decide) L_24 rfl rfl rfl (fun _ _ _ _ _ => mSI_24) (by decide) X hw ra0 dX12_bad_10 h (fun H locs u hw h => ?_)
    refine lv_aload_n hx hb dX12_bad_13 rfl (lv_at hl 0 rfl) ?_
    refine lv_iload_n hx hb dX12_bad_14 rfl (lv_at hl 2 rfl) ?_
    refine pS 25 59 (by decide) L_25 rfl rfl rfl (fun _ _ _ _ _ => mSI_25) (by decide) X hw ra1 dX12_bad_15 h (fun H locs u hw h => ?_)
    exact hret _ _ _ _ _ h hw dX12_bad_18
  · exact hret _ _ _ _ _ h hw dX12_bad_7

end
theorem c_bad {l : Launch} {a0 : Int} {a1 : Int} (ra0 : inR a0) (ra1 : inR a1) {Q : iST → Prop} {u : iST} (h : w_bad a0 a1 Q u) : kMV l yX12_bad (.code yX12_bad cX12_bad 3 none :: wsM) { frames := 0, cells := 0, slots := 0, locals := 0 } [.int (jI a0), .int (jI a1)] Q u := kMV_of rfl (fun _ => Nat.le_of_ble_eq_true rfl) (fun X hRf hRl hret hw hl => b_bad_s X hRf hRl hret ra0 ra1 hw hl h)

/-! mayBegin -/
theorem dX12_mayBegin_0 : decode cX12_mayBegin 0 = .ok (.aload_n 0, 1) := by decide +kernel
theorem dX12_mayBegin_1 : decode cX12_mayBegin 1 = .ok (.getfield 380, 3) := by decide +kernel
theorem dX12_mayBegin_4 : decode cX12_mayBegin 4 = .ok (.ifCond .ne 18, 3) := by decide +kernel
theorem dX12_mayBegin_7 : decode cX12_mayBegin 7 = .ok (.aload_n 0, 1) := by decide +kernel
theorem dX12_mayBegin_8 : decode cX12_mayBegin 8 = .ok (.getfield 383, 3) := by decide +kernel
theorem dX12_mayBegin_11 : decode cX12_mayBegin 11 = .ok (.ifCond .ne 7, 3) := by decide +kernel
theorem dX12_mayBegin_14 : decode cX12_mayBegin 14 = .ok (.iconst 1, 1) := by decide +kernel
theorem dX12_mayBegin_15 : decode cX12_mayBegin 15 = .ok (.goto 42, 3) := by decide +kernel
theorem dX12_mayBegin_18 : decode cX12_mayBegin 18 = .ok (.iconst 0, 1) := by decide +kernel
theorem dX12_mayBegin_19 : decode cX12_mayBegin 19 = .ok (.goto 38, 3) := by decide +kernel
theorem dX12_mayBegin_22 : decode cX12_mayBegin 22 = .ok (.aload_n 0, 1) := by decide +kernel
theorem dX12_mayBegin_23 : decode cX12_mayBegin 23 = .ok (.getfield 63, 3) := by decide +kernel
theorem dX12_mayBegin_26 : decode cX12_mayBegin 26 = .ok (.aload_n 0, 1) := by decide +kernel
theorem dX12_mayBegin_27 : decode cX12_mayBegin 27 = .ok (.getfield 380, 3) := by decide +kernel
theorem dX12_mayBegin_30 : decode cX12_mayBegin 30 = .ok (.iconst 1, 1) := by decide +kernel
theorem dX12_mayBegin_31 : decode cX12_mayBegin 31 = .ok (.isub, 1) := by decide +kernel
theorem dX12_mayBegin_32 : decode cX12_mayBegin 32 = .ok (.iaload, 1) := by decide +kernel
theorem dX12_mayBegin_33 : decode cX12_mayBegin 33 = .ok (.iconst 1, 1) := by decide +kernel
theorem dX12_mayBegin_34 : decode cX12_mayBegin 34 = .ok (.if_icmp .eq 18, 3) := by decide +kernel
theorem dX12_mayBegin_37 : decode cX12_mayBegin 37 = .ok (.aload_n 0, 1) := by decide +kernel
theorem dX12_mayBegin_38 : decode cX12_mayBegin 38 = .ok (.getfield 69, 3) := by decide +kernel
theorem dX12_mayBegin_41 : decode cX12_mayBegin 41 = .ok (.aload_n 0, 1) := by decide +kernel
theorem dX12_mayBegin_42 : decode cX12_mayBegin 42 = .ok (.getfield 380, 3) := by decide +kernel
theorem dX12_mayBegin_45 : decode cX12_mayBegin 45 = .ok (.iconst 1, 1) := by decide +kernel
theorem dX12_mayBegin_46 : decode cX12_mayBegin 46 = .ok (.isub, 1) := by decide +kernel
theorem dX12_mayBegin_47 : decode cX12_mayBegin 47 = .ok (.iaload, 1) := by decide +kernel
theorem dX12_mayBegin_48 : decode cX12_mayBegin 48 = .ok (.iconst 2, 1) := by decide +kernel
theorem dX12_mayBegin_49 : decode cX12_mayBegin 49 = .ok (.if_icmp .ge 7, 3) := by decide +kernel
theorem dX12_mayBegin_52 : decode cX12_mayBegin 52 = .ok (.iconst 1, 1) := by decide +kernel
theorem dX12_mayBegin_53 : decode cX12_mayBegin 53 = .ok (.goto 4, 3) := by decide +kernel
theorem dX12_mayBegin_56 : decode cX12_mayBegin 56 = .ok (.iconst 0, 1) := by decide +kernel
theorem dX12_mayBegin_57 : decode cX12_mayBegin 57 = .ok (.ireturn, 1) := by decide +kernel

section
variable {p : Program} {l : Launch} {e : Env} {R : Room} {s : State} {m : MethodId} {args : Array Value} {below : List Frame} {meth : Method} {c : Code} {H : Heap} {locs : List Loc} {Qf : State → Prop}
variable {ls : Array Slot} {D : va_G} {ca : Nat → ClassId} {A : Nat → Prop} {h0 : Nat} {ad : Nat → Nat} {H0 : Heap} {u : iST}
def w_mayBegin (Q : Int → iST → Prop) (u : iST) : Prop :=
  rd (u.1 30) (fun v1 => 
  br (v1 ≠ 0) (
    rd (u.1 30) (fun v2 => 
    ov (v2 - 1) (
    bd (v2 - 1) 40 (rd (u.2.1 26 (v2 - 1)) (fun v4 => 
    br (v4 = 1) (
      zt 1 (Q 1 u)) (
      rd (u.1 30) (fun v5 => 
      ov (v5 - 1) (
      bd (v5 - 1) 40 (rd (u.2.1 28 (v5 - 1)) (fun v7 => 
      br (2 ≤ v7) (
        zt 0 (Q 0 u)) (
        zt 1 (Q 1 u)))))))))))) (
    rz (u.1 34) (fun v8 => 
    br (v8 ≠ 0) (
      zt 0 (Q 0 u)) (
      zt 1 (Q 1 u)))))
set_option maxRecDepth 20000 in
set_option maxHeartbeats 4000000 in
theorem b_mayBegin_s (X : kX p m c cX12_mayBegin 1 s args D ca) (hRf : 0 ≤ R.frames) (hRl : 0 ≤ R.locals) {Q : Int → iST → Prop} (hret : ∀ (v : Int) (u : iST) (H : Heap) (locs : List Loc) (ls : Array Slot) (pc : Nat), bz v → Q v u → kW D ca A h0 ad H0 H locs u → decode cX12_mayBegin pc = .ok (.ireturn, 1) → W p l e R s m args below meth c H locs 0 0 Qf (F0 m pc ls [.int (jI v)])) (hw : kW D ca A h0 ad H0 H locs u) (hl : lv_has ls 1 [(0, .ref h0)]) (h : w_mayBegin Q u) : W p l e R s m args below meth c H locs 0 0 Qf (F0 m 0 ls []) := by
  have hx := X.1.1
  have hb := X.1.2.1
  unfold w_mayBegin at h
  refine lv_aload_n hx hb dX12_mayBegin_0 rfl (lv_at hl 0 rfl) ?_
  refine gS 30 380 (by decide) L_30 (fun _ _ => mF_30) rfl X hw dX12_mayBegin_1 h (fun v1 rv1 h => ?_)
  refine k_if_ne hx hb rv1 dX12_mayBegin_4 (tgt := 22) rfl h (fun h => ?_) (fun h => ?_)
  · refine lv_aload_n hx hb dX12_mayBegin_22 rfl (lv_at hl 0 rfl) ?_
    refine gA 26 63 (by decide) L_26 (fun _ _ => mF_26) rfl X hw dX12_mayBegin_23 ?_
    refine lv_aload_n hx hb dX12_mayBegin_26 rfl (lv_at hl 0 rfl) ?_
    refine gS 30 380 (by decide) L_30 (fun _ _ => mF_30) rfl X hw dX12_mayBegin_27 h (fun v2 rv2 h => ?_)
    refine lv_iconst hx hb dX12_mayBegin_30 (v := jI 1) rfl ?_
    refine k_isub hx hb dX12_mayBegin_31 h (fun r3 h => ?_)
    refine aL 26 16 15 40 (fun _ _ _ _ => mG_26) (fun _ => rfl) X hw r3 dX12_mayBegin_32 rfl h (fun v4 rv4 h => ?_)
    refine lv_iconst hx hb dX12_mayBegin_33 (v := jI 1) rfl ?_
    refine k_icmp_eq hx hb rv4 (by decide) dX12_mayBegin_34 (tgt := 52) rfl h (fun h => ?_) (fun h => ?_)
    · refine lv_iconst hx hb dX12_mayBegin_52 (v := jI 1) rfl ?_
      refine lv_goto hx hb dX12_mayBegin_53 (tgt := 57) rfl ?_
      exact hret _ _ _ _ _ _ h.1 h.2 hw dX12_mayBegin_57
    · refine lv_aload_n hx hb dX12_mayBegin_37 rfl (lv_at hl 0 rfl) ?_
      refine gA 28 69 (by decide) L_28 (fun _ _ => mF_28) rfl X hw dX12_mayBegin_38 ?_
      refine lv_aload_n hx hb dX12_mayBegin_41 rfl (lv_at hl 0 rfl) ?_
      refine gS 30 380 (by decide) L_30 (fun _ _ => mF_30) rfl X hw dX12_mayBegin_42 h (fun v5 rv5 h => ?_)
      refine lv_iconst hx hb dX12_mayBegin_45 (v := jI 1) rfl ?_
      refine k_isub hx hb dX12_mayBegin_46 h (fun r6 h => ?_)
      refine aL 28 18 17 40 (fun _ _ _ _ => mG_28) (fun _ => rfl) X hw r6 dX12_mayBegin_47 rfl h (fun v7 rv7 h => ?_)
      refine lv_iconst hx hb dX12_mayBegin_48 (v := jI 2) rfl ?_
      refine k_icmp_ge hx hb rv7 (by decide) dX12_mayBegin_49 (tgt := 56) rfl h (fun h => ?_) (fun h => ?_)
      · refine lv_iconst hx hb dX12_mayBegin_56 (v := jI 0) rfl ?_
        exact hret _ _ _ _ _ _ h.1 h.2 hw dX12_mayBegin_57
      · refine lv_iconst hx hb dX12_mayBegin_52 (v := jI 1) rfl ?_
        refine lv_goto hx hb dX12_mayBegin_53 (tgt := 57) rfl ?_
        exact hret _ _ _ _ _ _ h.1 h.2 hw dX12_mayBegin_57
  · refine lv_aload_n hx hb dX12_mayBegin_7 rfl (lv_at hl 0 rfl) ?_
    refine gZ 34 383 (by decide) L_34 (fun _ _ => mF_34) rfl (by decide) X hw dX12_mayBegin_8 h (fun v8 rv8 h => ?_)
    refine k_if_ne hx hb (bz_in rv8) dX12_mayBegin_11 (tgt := 18) rfl h (fun h => ?_) (fun h => ?_)
    · refine lv_iconst hx hb dX12_mayBegin_18 (v := jI 0) rfl ?_
      refine lv_goto hx hb dX12_mayBegin_19 (tgt := 57) rfl ?_
      exact hret _ _ _ _ _ _ h.1 h.2 hw dX12_mayBegin_57
    · refine lv_iconst hx hb dX12_mayBegin_14 (v := jI 1) rfl ?_
      refine lv_goto hx hb dX12_mayBegin_15 (tgt := 57) rfl ?_
      exact hret _ _ _ _ _ _ h.1 h.2 hw dX12_mayBegin_57

end
theorem c_mayBegin {l : Launch} {Q : Int → iST → Prop} {u : iST} (h : w_mayBegin Q u) : kMI l yX12_mayBegin (.code yX12_mayBegin cX12_mayBegin 1 (some .boolean) :: wsM) { frames := 0, cells := 0, slots := 0, locals := 0 } [] Q u := kMZ_of rfl (fun _ => Nat.le_of_ble_eq_true rfl) (fun X hRf hRl hret hw hl => b_mayBegin_s X hRf hRl hret hw hl h)

/-! begin -/
theorem dX12_begin_0 : decode cX12_begin 0 = .ok (.aload_n 0, 1) := by decide +kernel
theorem dX12_begin_1 : decode cX12_begin 1 = .ok (.getfield 63, 3) := by decide +kernel
theorem dX12_begin_4 : decode cX12_begin 4 = .ok (.aload_n 0, 1) := by decide +kernel
theorem dX12_begin_5 : decode cX12_begin 5 = .ok (.getfield 380, 3) := by decide +kernel
theorem dX12_begin_8 : decode cX12_begin 8 = .ok (.iload_n 1, 1) := by decide +kernel
theorem dX12_begin_9 : decode cX12_begin 9 = .ok (.iastore, 1) := by decide +kernel
theorem dX12_begin_10 : decode cX12_begin 10 = .ok (.aload_n 0, 1) := by decide +kernel
theorem dX12_begin_11 : decode cX12_begin 11 = .ok (.getfield 66, 3) := by decide +kernel
theorem dX12_begin_14 : decode cX12_begin 14 = .ok (.aload_n 0, 1) := by decide +kernel
theorem dX12_begin_15 : decode cX12_begin 15 = .ok (.getfield 380, 3) := by decide +kernel
theorem dX12_begin_18 : decode cX12_begin 18 = .ok (.aload_n 0, 1) := by decide +kernel
theorem dX12_begin_19 : decode cX12_begin 19 = .ok (.getfield 387, 3) := by decide +kernel
theorem dX12_begin_22 : decode cX12_begin 22 = .ok (.iastore, 1) := by decide +kernel
theorem dX12_begin_23 : decode cX12_begin 23 = .ok (.aload_n 0, 1) := by decide +kernel
theorem dX12_begin_24 : decode cX12_begin 24 = .ok (.getfield 69, 3) := by decide +kernel
theorem dX12_begin_27 : decode cX12_begin 27 = .ok (.aload_n 0, 1) := by decide +kernel
theorem dX12_begin_28 : decode cX12_begin 28 = .ok (.getfield 380, 3) := by decide +kernel
theorem dX12_begin_31 : decode cX12_begin 31 = .ok (.iconst 0, 1) := by decide +kernel
theorem dX12_begin_32 : decode cX12_begin 32 = .ok (.iastore, 1) := by decide +kernel
theorem dX12_begin_33 : decode cX12_begin 33 = .ok (.aload_n 0, 1) := by decide +kernel
theorem dX12_begin_34 : decode cX12_begin 34 = .ok (.dup, 1) := by decide +kernel
theorem dX12_begin_35 : decode cX12_begin 35 = .ok (.getfield 380, 3) := by decide +kernel
theorem dX12_begin_38 : decode cX12_begin 38 = .ok (.iconst 1, 1) := by decide +kernel
theorem dX12_begin_39 : decode cX12_begin 39 = .ok (.iadd, 1) := by decide +kernel
theorem dX12_begin_40 : decode cX12_begin 40 = .ok (.putfield 380, 3) := by decide +kernel
theorem dX12_begin_43 : decode cX12_begin 43 = .ok (.return_, 1) := by decide +kernel

section
variable {p : Program} {l : Launch} {e : Env} {R : Room} {s : State} {m : MethodId} {args : Array Value} {below : List Frame} {meth : Method} {c : Code} {H : Heap} {locs : List Loc} {Qf : State → Prop}
variable {ls : Array Slot} {D : va_G} {ca : Nat → ClassId} {A : Nat → Prop} {h0 : Nat} {ad : Nat → Nat} {H0 : Heap} {u : iST}
def w_begin (a0 : Int) (Q : iST → Prop) (u : iST) : Prop :=
  rd (u.1 30) (fun v1 => 
  bd v1 40 (sw (iA u 26 v1 a0) (fun u => 
  rd (u.1 30) (fun v2 => 
  rd (u.1 32) (fun v3 => 
  bd v2 40 (sw (iA u 27 v2 v3) (fun u => 
  rd (u.1 30) (fun v4 => 
  bd v4 40 (sw (iA u 28 v4 0) (fun u => 
  rd (u.1 30) (fun v5 => 
  ov (v5 + 1) (
  sw (iI u 30 (v5 + 1)) (fun u => 
  Q u)))))))))))))
set_option maxRecDepth 20000 in
set_option maxHeartbeats 4000000 in
theorem b_begin_s (X : kX p m c cX12_begin 2 s args D ca) (hRf : 0 ≤ R.frames) (hRl : 0 ≤ R.locals) {Q : iST → Prop} (hret : ∀ (u : iST) (H : Heap) (locs : List Loc) (ls : Array Slot) (pc : Nat), Q u → kW D ca A h0 ad H0 H locs u → decode cX12_begin pc = .ok (.return_, 1) → W p l e R s m args below meth c H locs 0 0 Qf (F0 m pc ls [])) {a0 : Int} (ra0 : inR a0) (hw : kW D ca A h0 ad H0 H locs u) (hl : lv_has ls 2 [(0, .ref h0), (1, .int (jI a0))]) (h : w_begin a0 Q u) : W p l e R s m args below meth c H locs 0 0 Qf (F0 m 0 ls []) := by
  have hx := X.1.1
  have hb := X.1.2.1
  unfold w_begin at h
  refine lv_aload_n hx hb dX12_begin_0 rfl (lv_at hl 0 rfl) ?_
  refine gA 26 63 (by decide) L_26 (fun _ _ => mF_26) rfl X hw dX12_begin_1 ?_
  refine lv_aload_n hx hb dX12_begin_4 rfl (lv_at hl 0 rfl) ?_
  refine gS 30 380 (by decide) L_30 (fun _ _ => mF_30) rfl X hw dX12_begin_5 h (fun v1 rv1 h => ?_)
  refine lv_iload_n hx hb dX12_begin_8 rfl (lv_at hl 1 rfl) ?_
  refine aS 26 16 15 40 (fun _ _ _ _ => mG_26) (fun _ => rfl) (fun _ _ _ _ _ _ => mSA_26) (by decide) X hw rv1 ra0 dX12_begin_9 rfl h (fun H locs u hw h => ?_)
  refine lv_aload_n hx hb dX12_begin_10 rfl (lv_at hl 0 rfl) ?_
  refine gA 27 66 (by decide) L_27 (fun _ _ => mF_27) rfl X hw dX12_begin_11 ?_
  refine lv_aload_n hx hb dX12_begin_14 rfl (lv_at hl 0 rfl) ?_
  refine gS 30 380 (by decide) L_30 (fun _ _ => mF_30) rfl X hw dX12_begin_15 h (fun v2 rv2 h => ?_)
  refine lv_aload_n hx hb dX12_begin_18 rfl (lv_at hl 0 rfl) ?_
  refine gS 32 387 (by decide) L_32 (fun _ _ => mF_32) rfl X hw dX12_begin_19 h (fun v3 rv3 h => ?_)
  refine aS 27 17 16 40 (fun _ _ _ _ => mG_27) (fun _ => rfl) (fun _ _ _ _ _ _ => mSA_27) (by decide) X hw rv2 rv3 dX12_begin_22 rfl h (fun H locs u hw h => ?_)
  refine lv_aload_n hx hb dX12_begin_23 rfl (lv_at hl 0 rfl) ?_
  refine gA 28 69 (by decide) L_28 (fun _ _ => mF_28) rfl X hw dX12_begin_24 ?_
  refine lv_aload_n hx hb dX12_begin_27 rfl (lv_at hl 0 rfl) ?_
  refine gS 30 380 (by decide) L_30 (fun _ _ => mF_30) rfl X hw dX12_begin_28 h (fun v4 rv4 h => ?_)
  refine lv_iconst hx hb dX12_begin_31 (v := jI 0) rfl ?_
  refine aS 28 18 17 40 (fun _ _ _ _ => mG_28) (fun _ => rfl) (fun _ _ _ _ _ _ => mSA_28) (by decide) X hw rv4 (by decide) dX12_begin_32 rfl h (fun H locs u hw h => ?_)
  refine lv_aload_n hx hb dX12_begin_33 rfl (lv_at hl 0 rfl) ?_
  refine lv_dup hx hb dX12_begin_34 rfl ?_
  refine gS 30 380 (by decide) L_30 (fun _ _ => mF_30) rfl X hw dX12_begin_35 h (fun v5 rv5 h => ?_)
  refine lv_iconst hx hb dX12_begin_38 (v := jI 1) rfl ?_
  refine k_iadd hx hb dX12_begin_39 h (fun r6 h => ?_)
  refine pS 30 380 (by decide) L_30 rfl rfl rfl (fun _ _ _ _ _ => mSI_30) (by decide) X hw r6 dX12_begin_40 h (fun H locs u hw h => ?_)
  exact hret _ _ _ _ _ h hw dX12_begin_43

end
theorem c_begin {l : Launch} {a0 : Int} (ra0 : inR a0) {Q : iST → Prop} {u : iST} (h : w_begin a0 Q u) : kMV l yX12_begin (.code yX12_begin cX12_begin 2 none :: wsM) { frames := 0, cells := 0, slots := 0, locals := 0 } [.int (jI a0)] Q u := kMV_of rfl (fun _ => Nat.le_of_ble_eq_true rfl) (fun X hRf hRl hret hw hl => b_begin_s X hRf hRl hret ra0 hw hl h)

/-! deliver -/
theorem dX12_deliver_0 : decode cX12_deliver 0 = .ok (.iload_n 1, 1) := by decide +kernel
theorem dX12_deliver_1 : decode cX12_deliver 1 = .ok (.istore_n 2, 1) := by decide +kernel
theorem dX12_deliver_2 : decode cX12_deliver 2 = .ok (.aload_n 0, 1) := by decide +kernel
theorem dX12_deliver_3 : decode cX12_deliver 3 = .ok (.getfield 380, 3) := by decide +kernel
theorem dX12_deliver_6 : decode cX12_deliver 6 = .ok (.ifCond .le 38, 3) := by decide +kernel
theorem dX12_deliver_9 : decode cX12_deliver 9 = .ok (.aload_n 0, 1) := by decide +kernel
theorem dX12_deliver_10 : decode cX12_deliver 10 = .ok (.getfield 63, 3) := by decide +kernel
theorem dX12_deliver_13 : decode cX12_deliver 13 = .ok (.aload_n 0, 1) := by decide +kernel
theorem dX12_deliver_14 : decode cX12_deliver 14 = .ok (.getfield 380, 3) := by decide +kernel
theorem dX12_deliver_17 : decode cX12_deliver 17 = .ok (.iconst 1, 1) := by decide +kernel
theorem dX12_deliver_18 : decode cX12_deliver 18 = .ok (.isub, 1) := by decide +kernel
theorem dX12_deliver_19 : decode cX12_deliver 19 = .ok (.iaload, 1) := by decide +kernel
theorem dX12_deliver_20 : decode cX12_deliver 20 = .ok (.iconst 1, 1) := by decide +kernel
theorem dX12_deliver_21 : decode cX12_deliver 21 = .ok (.if_icmp .ne 23, 3) := by decide +kernel
theorem dX12_deliver_24 : decode cX12_deliver 24 = .ok (.aload_n 0, 1) := by decide +kernel
theorem dX12_deliver_25 : decode cX12_deliver 25 = .ok (.iconst 2, 1) := by decide +kernel
theorem dX12_deliver_26 : decode cX12_deliver 26 = .ok (.iload_n 2, 1) := by decide +kernel
theorem dX12_deliver_27 : decode cX12_deliver 27 = .ok (.invokevirtual 359, 3) := by decide +kernel
theorem dX12_deliver_30 : decode cX12_deliver 30 = .ok (.istore_n 2, 1) := by decide +kernel
theorem dX12_deliver_31 : decode cX12_deliver 31 = .ok (.aload_n 0, 1) := by decide +kernel
theorem dX12_deliver_32 : decode cX12_deliver 32 = .ok (.dup, 1) := by decide +kernel
theorem dX12_deliver_33 : decode cX12_deliver 33 = .ok (.getfield 380, 3) := by decide +kernel
theorem dX12_deliver_36 : decode cX12_deliver 36 = .ok (.iconst 1, 1) := by decide +kernel
theorem dX12_deliver_37 : decode cX12_deliver 37 = .ok (.isub, 1) := by decide +kernel
theorem dX12_deliver_38 : decode cX12_deliver 38 = .ok (.putfield 380, 3) := by decide +kernel
theorem dX12_deliver_41 : decode cX12_deliver 41 = .ok (.goto (-39), 3) := by decide +kernel
theorem dX12_deliver_44 : decode cX12_deliver 44 = .ok (.aload_n 0, 1) := by decide +kernel
theorem dX12_deliver_45 : decode cX12_deliver 45 = .ok (.getfield 380, 3) := by decide +kernel
theorem dX12_deliver_48 : decode cX12_deliver 48 = .ok (.ifCond .ne 16, 3) := by decide +kernel
theorem dX12_deliver_51 : decode cX12_deliver 51 = .ok (.aload_n 0, 1) := by decide +kernel
theorem dX12_deliver_52 : decode cX12_deliver 52 = .ok (.iload_n 2, 1) := by decide +kernel
theorem dX12_deliver_53 : decode cX12_deliver 53 = .ok (.putfield 390, 3) := by decide +kernel
theorem dX12_deliver_56 : decode cX12_deliver 56 = .ok (.aload_n 0, 1) := by decide +kernel
theorem dX12_deliver_57 : decode cX12_deliver 57 = .ok (.iconst 1, 1) := by decide +kernel
theorem dX12_deliver_58 : decode cX12_deliver 58 = .ok (.putfield 383, 3) := by decide +kernel
theorem dX12_deliver_61 : decode cX12_deliver 61 = .ok (.goto 65, 3) := by decide +kernel
theorem dX12_deliver_64 : decode cX12_deliver 64 = .ok (.aload_n 0, 1) := by decide +kernel
theorem dX12_deliver_65 : decode cX12_deliver 65 = .ok (.getfield 69, 3) := by decide +kernel
theorem dX12_deliver_68 : decode cX12_deliver 68 = .ok (.aload_n 0, 1) := by decide +kernel
theorem dX12_deliver_69 : decode cX12_deliver 69 = .ok (.getfield 380, 3) := by decide +kernel
theorem dX12_deliver_72 : decode cX12_deliver 72 = .ok (.iconst 1, 1) := by decide +kernel
theorem dX12_deliver_73 : decode cX12_deliver 73 = .ok (.isub, 1) := by decide +kernel
theorem dX12_deliver_74 : decode cX12_deliver 74 = .ok (.iaload, 1) := by decide +kernel
theorem dX12_deliver_75 : decode cX12_deliver 75 = .ok (.iconst 1, 1) := by decide +kernel
theorem dX12_deliver_76 : decode cX12_deliver 76 = .ok (.if_icmp .ne 30, 3) := by decide +kernel
theorem dX12_deliver_79 : decode cX12_deliver 79 = .ok (.aload_n 0, 1) := by decide +kernel
theorem dX12_deliver_80 : decode cX12_deliver 80 = .ok (.getfield 72, 3) := by decide +kernel
theorem dX12_deliver_83 : decode cX12_deliver 83 = .ok (.aload_n 0, 1) := by decide +kernel
theorem dX12_deliver_84 : decode cX12_deliver 84 = .ok (.getfield 380, 3) := by decide +kernel
theorem dX12_deliver_87 : decode cX12_deliver 87 = .ok (.iconst 1, 1) := by decide +kernel
theorem dX12_deliver_88 : decode cX12_deliver 88 = .ok (.isub, 1) := by decide +kernel
theorem dX12_deliver_89 : decode cX12_deliver 89 = .ok (.iload_n 2, 1) := by decide +kernel
theorem dX12_deliver_90 : decode cX12_deliver 90 = .ok (.iastore, 1) := by decide +kernel
theorem dX12_deliver_91 : decode cX12_deliver 91 = .ok (.aload_n 0, 1) := by decide +kernel
theorem dX12_deliver_92 : decode cX12_deliver 92 = .ok (.getfield 69, 3) := by decide +kernel
theorem dX12_deliver_95 : decode cX12_deliver 95 = .ok (.aload_n 0, 1) := by decide +kernel
theorem dX12_deliver_96 : decode cX12_deliver 96 = .ok (.getfield 380, 3) := by decide +kernel
theorem dX12_deliver_99 : decode cX12_deliver 99 = .ok (.iconst 1, 1) := by decide +kernel
theorem dX12_deliver_100 : decode cX12_deliver 100 = .ok (.isub, 1) := by decide +kernel
theorem dX12_deliver_101 : decode cX12_deliver 101 = .ok (.iconst 2, 1) := by decide +kernel
theorem dX12_deliver_102 : decode cX12_deliver 102 = .ok (.iastore, 1) := by decide +kernel
theorem dX12_deliver_103 : decode cX12_deliver 103 = .ok (.goto 23, 3) := by decide +kernel
theorem dX12_deliver_106 : decode cX12_deliver 106 = .ok (.aload_n 0, 1) := by decide +kernel
theorem dX12_deliver_107 : decode cX12_deliver 107 = .ok (.getfield 75, 3) := by decide +kernel
theorem dX12_deliver_110 : decode cX12_deliver 110 = .ok (.aload_n 0, 1) := by decide +kernel
theorem dX12_deliver_111 : decode cX12_deliver 111 = .ok (.getfield 387, 3) := by decide +kernel
theorem dX12_deliver_114 : decode cX12_deliver 114 = .ok (.iload_n 2, 1) := by decide +kernel
theorem dX12_deliver_115 : decode cX12_deliver 115 = .ok (.iastore, 1) := by decide +kernel
theorem dX12_deliver_116 : decode cX12_deliver 116 = .ok (.aload_n 0, 1) := by decide +kernel
theorem dX12_deliver_117 : decode cX12_deliver 117 = .ok (.dup, 1) := by decide +kernel
theorem dX12_deliver_118 : decode cX12_deliver 118 = .ok (.getfield 387, 3) := by decide +kernel
theorem dX12_deliver_121 : decode cX12_deliver 121 = .ok (.iconst 1, 1) := by decide +kernel
theorem dX12_deliver_122 : decode cX12_deliver 122 = .ok (.iadd, 1) := by decide +kernel
theorem dX12_deliver_123 : decode cX12_deliver 123 = .ok (.putfield 387, 3) := by decide +kernel
theorem dX12_deliver_126 : decode cX12_deliver 126 = .ok (.return_, 1) := by decide +kernel

section
variable {p : Program} {l : Launch} {e : Env} {R : Room} {s : State} {m : MethodId} {args : Array Value} {below : List Frame} {meth : Method} {c : Code} {H : Heap} {locs : List Loc} {Qf : State → Prop}
variable {ls : Array Slot} {D : va_G} {ca : Nat → ClassId} {A : Nat → Prop} {h0 : Nat} {ad : Nat → Nat} {H0 : Heap} {u : iST}
def w_deliver_44 (Q : iST → Prop) (x2 : Int) (u : iST) : Prop :=
  rd (u.1 30) (fun v2 => 
  br (v2 ≠ 0) (
    rd (u.1 30) (fun v3 => 
    ov (v3 - 1) (
    bd (v3 - 1) 40 (rd (u.2.1 28 (v3 - 1)) (fun v5 => 
    br (v5 ≠ 1) (
      rd (u.1 32) (fun v6 => 
      bd v6 1100 (sw (iA u 31 v6 x2) (fun u => 
      rd (u.1 32) (fun v7 => 
      ov (v7 + 1) (
      sw (iI u 32 (v7 + 1)) (fun u => 
      Q u))))))) (
      rd (u.1 30) (fun v9 => 
      ov (v9 - 1) (
      bd (v9 - 1) 40 (sw (iA u 29 (v9 - 1) x2) (fun u => 
      rd (u.1 30) (fun v11 => 
      ov (v11 - 1) (
      bd (v11 - 1) 40 (sw (iA u 28 (v11 - 1) 2) (fun u => 
      Q u)))))))))))))) (
    sw (iI u 33 x2) (fun u => 
    zt 1 (sw (iI u 34 1) (fun u => 
    Q u)))))
set_option maxRecDepth 20000 in
set_option maxHeartbeats 4000000 in
theorem b_deliver_44 (X : kX p m c cX12_deliver 3 s args D ca) (hRf : 4 ≤ R.frames) (hRl : 90 ≤ R.locals) {Q : iST → Prop} (hret : ∀ (u : iST) (H : Heap) (locs : List Loc) (ls : Array Slot) (pc : Nat), Q u → kW D ca A h0 ad H0 H locs u → decode cX12_deliver pc = .ok (.return_, 1) → W p l e R s m args below meth c H locs 0 0 Qf (F0 m pc ls [])) {x2 : Int} (rx2 : inR x2) (hw : kW D ca A h0 ad H0 H locs u) (hl : lv_has ls 3 [(0, .ref h0), (2, .int (jI x2))]) (h : w_deliver_44 Q x2 u) : W p l e R s m args below meth c H locs 0 0 Qf (F0 m 44 ls []) := by
  have hx := X.1.1
  have hb := X.1.2.1
  unfold w_deliver_44 at h
  refine lv_aload_n hx hb dX12_deliver_44 rfl (lv_at hl 0 rfl) ?_
  refine gS 30 380 (by decide) L_30 (fun _ _ => mF_30) rfl X hw dX12_deliver_45 h (fun v2 rv2 h => ?_)
  refine k_if_ne hx hb rv2 dX12_deliver_48 (tgt := 64) rfl h (fun h => ?_) (fun h => ?_)
  · refine lv_aload_n hx hb dX12_deliver_64 rfl (lv_at hl 0 rfl) ?_
    refine gA 28 69 (by decide) L_28 (fun _ _ => mF_28) rfl X hw dX12_deliver_65 ?_
    refine lv_aload_n hx hb dX12_deliver_68 rfl (lv_at hl 0 rfl) ?_
    refine gS 30 380 (by decide) L_30 (fun _ _ => mF_30) rfl X hw dX12_deliver_69 h (fun v3 rv3 h => ?_)
    refine lv_iconst hx hb dX12_deliver_72 (v := jI 1) rfl ?_
    refine k_isub hx hb dX12_deliver_73 h (fun r4 h => ?_)
    refine aL 28 18 17 40 (fun _ _ _ _ => mG_28) (fun _ => rfl) X hw r4 dX12_deliver_74 rfl h (fun v5 rv5 h => ?_)
    refine lv_iconst hx hb dX12_deliver_75 (v := jI 1) rfl ?_
    refine k_icmp_ne hx hb rv5 (by decide) dX12_deliver_76 (tgt := 106) rfl h (fun h => ?_) (fun h => ?_)
    · refine lv_aload_n hx hb dX12_deliver_106 rfl (lv_at hl 0 rfl) ?_
      refine gA 31 75 (by decide) L_31 (fun _ _ => mF_31) rfl X hw dX12_deliver_107 ?_
      refine lv_aload_n hx hb dX12_deliver_110 rfl (lv_at hl 0 rfl) ?_
      refine gS 32 387 (by decide) L_32 (fun _ _ => mF_32) rfl X hw dX12_deliver_111 h (fun v6 rv6 h => ?_)
      refine lv_iload_n hx hb dX12_deliver_114 rfl (lv_at hl 1 rfl) ?_
      refine aS 31 20 19 1100 (fun _ _ _ _ => mG_31) (fun _ => rfl) (fun _ _ _ _ _ _ => mSA_31) (by decide) X hw rv6 rx2 dX12_deliver_115 rfl h (fun H locs u hw h => ?_)
      refine lv_aload_n hx hb dX12_deliver_116 rfl (lv_at hl 0 rfl) ?_
      refine lv_dup hx hb dX12_deliver_117 rfl ?_
      refine gS 32 387 (by decide) L_32 (fun _ _ => mF_32) rfl X hw dX12_deliver_118 h (fun v7 rv7 h => ?_)
      refine lv_iconst hx hb dX12_deliver_121 (v := jI 1) rfl ?_
      refine k_iadd hx hb dX12_deliver_122 h (fun r8 h => ?_)
      refine pS 32 387 (by decide) L_32 rfl rfl rfl (fun _ _ _ _ _ => mSI_32) (by decide) X hw r8 dX12_deliver_123 h (fun H locs u hw h => ?_)
      exact hret _ _ _ _ _ h hw dX12_deliver_126
    · refine lv_aload_n hx hb dX12_deliver_79 rfl (lv_at hl 0 rfl) ?_
      refine gA 29 72 (by decide) L_29 (fun _ _ => mF_29) rfl X hw dX12_deliver_80 ?_
      refine lv_aload_n hx hb dX12_deliver_83 rfl (lv_at hl 0 rfl) ?_
      refine gS 30 380 (by decide) L_30 (fun _ _ => mF_30) rfl X hw dX12_deliver_84 h (fun v9 rv9 h => ?_)
      refine lv_iconst hx hb dX12_deliver_87 (v := jI 1) rfl ?_
      refine k_isub hx hb dX12_deliver_88 h (fun r10 h => ?_)
      refine lv_iload_n hx hb dX12_deliver_89 rfl (lv_at hl 1 rfl) ?_
      refine aS 29 19 18 40 (fun _ _ _ _ => mG_29) (fun _ => rfl) (fun _ _ _ _ _ _ => mSA_29) (by decide) X hw r10 rx2 dX12_deliver_90 rfl h (fun H locs u hw h => ?_)
      refine lv_aload_n hx hb dX12_deliver_91 rfl (lv_at hl 0 rfl) ?_
      refine gA 28 69 (by decide) L_28 (fun _ _ => mF_28) rfl X hw dX12_deliver_92 ?_
      refine lv_aload_n hx hb dX12_deliver_95 rfl (lv_at hl 0 rfl) ?_
      refine gS 30 380 (by decide) L_30 (fun _ _ => mF_30) rfl X hw dX12_deliver_96 h (fun v11 rv11 h => ?_)
      refine lv_iconst hx hb dX12_deliver_99 (v := jI 1) rfl ?_
      refine k_isub hx hb dX12_deliver_100 h (fun r12 h => ?_)
      refine lv_iconst hx hb dX12_deliver_101 (v := jI 2) rfl ?_
      refine aS 28 18 17 40 (fun _ _ _ _ => mG_28) (fun _ => rfl) (fun _ _ _ _ _ _ => mSA_28) (by decide) X hw r12 (by decide) dX12_deliver_102 rfl h (fun H locs u hw h => ?_)
      refine lv_goto hx hb dX12_deliver_103 (tgt := 126) rfl ?_
      exact hret _ _ _ _ _ h hw dX12_deliver_126
  · refine lv_aload_n hx hb dX12_deliver_51 rfl (lv_at hl 0 rfl) ?_
    refine lv_iload_n hx hb dX12_deliver_52 rfl (lv_at hl 1 rfl) ?_
    refine pS 33 390 (by decide) L_33 rfl rfl rfl (fun _ _ _ _ _ => mSI_33) (by decide) X hw rx2 dX12_deliver_53 h (fun H locs u hw h => ?_)
    refine lv_aload_n hx hb dX12_deliver_56 rfl (lv_at hl 0 rfl) ?_
    refine lv_iconst hx hb dX12_deliver_57 (v := jI 1) rfl ?_
    refine pZ 34 383 (by decide) L_34 rfl rfl rfl (fun _ _ _ _ _ => mSI_34) X hw dX12_deliver_58 h (fun H locs u hw h => ?_)
    refine lv_goto hx hb dX12_deliver_61 (tgt := 126) rfl ?_
    exact hret _ _ _ _ _ h hw dX12_deliver_126

def w_deliver_2b (R2 : Int → iST → Prop) (Q : iST → Prop) (x2 : Int) (u : iST) : Prop :=
  rd (u.1 30) (fun v1 => 
  br (v1 ≤ 0) (
    w_deliver_44 Q x2 u) (
    rd (u.1 30) (fun v13 => 
    ov (v13 - 1) (
    bd (v13 - 1) 40 (rd (u.2.1 26 (v13 - 1)) (fun v15 => 
    br (v15 ≠ 1) (
      w_deliver_44 Q x2 u) (
      w_list2 2 x2 (fun v16 u => 
      rd (u.1 30) (fun v17 => 
      ov (v17 - 1) (
      sw (iI u 30 (v17 - 1)) (fun u => 
      R2 v16 u)))) u)))))))
def w_deliver_2 (Q : iST → Prop) (x2 : Int) (u : iST) : Prop := ∀ R2 : Int → iST → Prop, (∀ (x2 : Int) (u : iST), w_deliver_2b R2 Q x2 u → R2 x2 u) → R2 x2 u
set_option maxRecDepth 20000 in
set_option maxHeartbeats 4000000 in
theorem b_deliver_2 (X : kX p m c cX12_deliver 3 s args D ca) (hRf : 4 ≤ R.frames) (hRl : 90 ≤ R.locals) {Q : iST → Prop} (hret : ∀ (u : iST) (H : Heap) (locs : List Loc) (ls : Array Slot) (pc : Nat), Q u → kW D ca A h0 ad H0 H locs u → decode cX12_deliver pc = .ok (.return_, 1) → W p l e R s m args below meth c H locs 0 0 Qf (F0 m pc ls [])) {x2 : Int} (rx2 : inR x2) (hw : kW D ca A h0 ad H0 H locs u) (hl : lv_has ls 3 [(0, .ref h0), (2, .int (jI x2))]) (h : w_deliver_2 Q x2 u) : W p l e R s m args below meth c H locs 0 0 Qf (F0 m 2 ls []) := by
  refine h (fun x2 u => ∀ (H : Heap) (locs : List Loc) (ls : Array Slot), inR x2 → kW D ca A h0 ad H0 H locs u → lv_has ls 3 [(0, .ref h0), (2, .int (jI x2))] → W p l e R s m args below meth c H locs 0 0 Qf (F0 m 2 ls [])) ?_ H locs ls rx2 hw hl
  clear h hl hw rx2
  intro x2 u h H locs ls rx2 hw hl
  have hR2 : ∀ (x2 : Int) (u : iST) (H : Heap) (locs : List Loc) (ls : Array Slot), inR x2 → kW D ca A h0 ad H0 H locs u → lv_has ls 3 [(0, .ref h0), (2, .int (jI x2))] → (fun (x2 : Int) u => ∀ (H : Heap) (locs : List Loc) (ls : Array Slot), inR x2 → kW D ca A h0 ad H0 H locs u → lv_has ls 3 [(0, .ref h0), (2, .int (jI x2))] → W p l e R s m args below meth c H locs 0 0 Qf (F0 m 2 ls [])) x2 u → W p l e R s m args below meth c H locs 0 0 Qf (F0 m 2 ls []) := fun x2 u H locs ls rx2 hw hl h => h H locs ls rx2 hw hl
  have hx := X.1.1
  have hb := X.1.2.1
  unfold w_deliver_2b at h
  refine lv_aload_n hx hb dX12_deliver_2 rfl (lv_at hl 0 rfl) ?_
  refine gS 30 380 (by decide) L_30 (fun _ _ => mF_30) rfl X hw dX12_deliver_3 h (fun v1 rv1 h => ?_)
  refine k_if_le hx hb rv1 dX12_deliver_6 (tgt := 44) rfl h (fun h => ?_) (fun h => ?_)
  · exact b_deliver_44 X hRf hRl hret rx2 hw hl h
  · refine lv_aload_n hx hb dX12_deliver_9 rfl (lv_at hl 0 rfl) ?_
    refine gA 26 63 (by decide) L_26 (fun _ _ => mF_26) rfl X hw dX12_deliver_10 ?_
    refine lv_aload_n hx hb dX12_deliver_13 rfl (lv_at hl 0 rfl) ?_
    refine gS 30 380 (by decide) L_30 (fun _ _ => mF_30) rfl X hw dX12_deliver_14 h (fun v13 rv13 h => ?_)
    refine lv_iconst hx hb dX12_deliver_17 (v := jI 1) rfl ?_
    refine k_isub hx hb dX12_deliver_18 h (fun r14 h => ?_)
    refine aL 26 16 15 40 (fun _ _ _ _ => mG_26) (fun _ => rfl) X hw r14 dX12_deliver_19 rfl h (fun v15 rv15 h => ?_)
    refine lv_iconst hx hb dX12_deliver_20 (v := jI 1) rfl ?_
    refine k_icmp_ne hx hb rv15 (by decide) dX12_deliver_21 (tgt := 44) rfl h (fun h => ?_) (fun h => ?_)
    · exact b_deliver_44 X hRf hRl hret rx2 hw hl h
    · refine lv_aload_n hx hb dX12_deliver_24 rfl (lv_at hl 0 rfl) ?_
      refine lv_iconst hx hb dX12_deliver_25 (v := jI 2) rfl ?_
      refine lv_iload_n hx hb dX12_deliver_26 rfl (lv_at hl 1 rfl) ?_
      refine kcI (n := 2) (c_list2 (by decide) rx2 h) G_list2 E_list2 X hw (Nat.le_trans (Nat.le_of_ble_eq_true rfl) hRf) (Nat.le_trans (Nat.le_of_ble_eq_true rfl) hRl) rfl hl.1 (Nat.le_of_ble_eq_true rfl) rfl dX12_deliver_27 (fun v16 u H locs rv16 h hw => ?_)
      refine lv_istore_n hx hb dX12_deliver_30 rfl hl (by decide) rfl (fun ls hl => ?_)
      have hl : lv_has ls 3 [(2, .int (jI v16)), (0, .ref (h0))] := hl
      refine lv_aload_n hx hb dX12_deliver_31 rfl (lv_at hl 1 rfl) ?_
      refine lv_dup hx hb dX12_deliver_32 rfl ?_
      refine gS 30 380 (by decide) L_30 (fun _ _ => mF_30) rfl X hw dX12_deliver_33 h (fun v17 rv17 h => ?_)
      refine lv_iconst hx hb dX12_deliver_36 (v := jI 1) rfl ?_
      refine k_isub hx hb dX12_deliver_37 h (fun r18 h => ?_)
      refine pS 30 380 (by decide) L_30 rfl rfl rfl (fun _ _ _ _ _ => mSI_30) (by decide) X hw r18 dX12_deliver_38 h (fun H locs u hw h => ?_)
      refine lv_goto hx hb dX12_deliver_41 (tgt := 2) rfl ?_
      exact hR2 _ _ H locs ls rv16 hw (lv_sub hl [1, 0] rfl) h

def w_deliver (a0 : Int) (Q : iST → Prop) (u : iST) : Prop :=
  w_deliver_2 Q a0 u
set_option maxRecDepth 20000 in
set_option maxHeartbeats 4000000 in
theorem b_deliver_s (X : kX p m c cX12_deliver 3 s args D ca) (hRf : 4 ≤ R.frames) (hRl : 90 ≤ R.locals) {Q : iST → Prop} (hret : ∀ (u : iST) (H : Heap) (locs : List Loc) (ls : Array Slot) (pc : Nat), Q u → kW D ca A h0 ad H0 H locs u → decode cX12_deliver pc = .ok (.return_, 1) → W p l e R s m args below meth c H locs 0 0 Qf (F0 m pc ls [])) {a0 : Int} (ra0 : inR a0) (hw : kW D ca A h0 ad H0 H locs u) (hl : lv_has ls 3 [(0, .ref h0), (1, .int (jI a0))]) (h : w_deliver a0 Q u) : W p l e R s m args below meth c H locs 0 0 Qf (F0 m 0 ls []) := by
  have hx := X.1.1
  have hb := X.1.2.1
  unfold w_deliver at h
  refine lv_iload_n hx hb dX12_deliver_0 rfl (lv_at hl 1 rfl) ?_
  refine lv_istore_n hx hb dX12_deliver_1 rfl hl (by decide) rfl (fun ls hl => ?_)
  have hl : lv_has ls 3 [(2, .int (jI a0)), (0, .ref (h0)), (1, .int (jI a0))] := hl
  exact b_deliver_2 X hRf hRl hret ra0 hw (lv_sub hl [1, 0] rfl) h

end
theorem c_deliver {l : Launch} {a0 : Int} (ra0 : inR a0) {Q : iST → Prop} {u : iST} (h : w_deliver a0 Q u) : kMV l yX12_deliver (.code yX12_deliver cX12_deliver 3 none :: wsM) { frames := 4, cells := 0, slots := 0, locals := 90 } [.int (jI a0)] Q u := kMV_of rfl (fun _ => Nat.le_of_ble_eq_true rfl) (fun X hRf hRl hret hw hl => b_deliver_s X hRf hRl hret ra0 hw hl h)

/-! close -/
theorem dX12_close_0 : decode cX12_close 0 = .ok (.aload_n 0, 1) := by decide +kernel
theorem dX12_close_1 : decode cX12_close 1 = .ok (.getfield 380, 3) := by decide +kernel
theorem dX12_close_4 : decode cX12_close 4 = .ok (.iconst 1, 1) := by decide +kernel
theorem dX12_close_5 : decode cX12_close 5 = .ok (.isub, 1) := by decide +kernel
theorem dX12_close_6 : decode cX12_close 6 = .ok (.istore_n 1, 1) := by decide +kernel
theorem dX12_close_7 : decode cX12_close 7 = .ok (.aload_n 0, 1) := by decide +kernel
theorem dX12_close_8 : decode cX12_close 8 = .ok (.getfield 69, 3) := by decide +kernel
theorem dX12_close_11 : decode cX12_close 11 = .ok (.iload_n 1, 1) := by decide +kernel
theorem dX12_close_12 : decode cX12_close 12 = .ok (.iaload, 1) := by decide +kernel
theorem dX12_close_13 : decode cX12_close 13 = .ok (.iconst 2, 1) := by decide +kernel
theorem dX12_close_14 : decode cX12_close 14 = .ok (.if_icmp .ne 12, 3) := by decide +kernel
theorem dX12_close_17 : decode cX12_close 17 = .ok (.aload_n 0, 1) := by decide +kernel
theorem dX12_close_18 : decode cX12_close 18 = .ok (.getfield 72, 3) := by decide +kernel
theorem dX12_close_21 : decode cX12_close 21 = .ok (.iload_n 1, 1) := by decide +kernel
theorem dX12_close_22 : decode cX12_close 22 = .ok (.iaload, 1) := by decide +kernel
theorem dX12_close_23 : decode cX12_close 23 = .ok (.goto 4, 3) := by decide +kernel
theorem dX12_close_26 : decode cX12_close 26 = .ok (.iconst 0, 1) := by decide +kernel
theorem dX12_close_27 : decode cX12_close 27 = .ok (.istore_n 2, 1) := by decide +kernel
theorem dX12_close_28 : decode cX12_close 28 = .ok (.aload_n 0, 1) := by decide +kernel
theorem dX12_close_29 : decode cX12_close 29 = .ok (.getfield 387, 3) := by decide +kernel
theorem dX12_close_32 : decode cX12_close 32 = .ok (.aload_n 0, 1) := by decide +kernel
theorem dX12_close_33 : decode cX12_close 33 = .ok (.getfield 66, 3) := by decide +kernel
theorem dX12_close_36 : decode cX12_close 36 = .ok (.iload_n 1, 1) := by decide +kernel
theorem dX12_close_37 : decode cX12_close 37 = .ok (.iaload, 1) := by decide +kernel
theorem dX12_close_38 : decode cX12_close 38 = .ok (.if_icmp .le 31, 3) := by decide +kernel
theorem dX12_close_41 : decode cX12_close 41 = .ok (.aload_n 0, 1) := by decide +kernel
theorem dX12_close_42 : decode cX12_close 42 = .ok (.dup, 1) := by decide +kernel
theorem dX12_close_43 : decode cX12_close 43 = .ok (.getfield 387, 3) := by decide +kernel
theorem dX12_close_46 : decode cX12_close 46 = .ok (.iconst 1, 1) := by decide +kernel
theorem dX12_close_47 : decode cX12_close 47 = .ok (.isub, 1) := by decide +kernel
theorem dX12_close_48 : decode cX12_close 48 = .ok (.putfield 387, 3) := by decide +kernel
theorem dX12_close_51 : decode cX12_close 51 = .ok (.aload_n 0, 1) := by decide +kernel
theorem dX12_close_52 : decode cX12_close 52 = .ok (.aload_n 0, 1) := by decide +kernel
theorem dX12_close_53 : decode cX12_close 53 = .ok (.getfield 75, 3) := by decide +kernel
theorem dX12_close_56 : decode cX12_close 56 = .ok (.aload_n 0, 1) := by decide +kernel
theorem dX12_close_57 : decode cX12_close 57 = .ok (.getfield 387, 3) := by decide +kernel
theorem dX12_close_60 : decode cX12_close 60 = .ok (.iaload, 1) := by decide +kernel
theorem dX12_close_61 : decode cX12_close 61 = .ok (.iload_n 2, 1) := by decide +kernel
theorem dX12_close_62 : decode cX12_close 62 = .ok (.invokevirtual 353, 3) := by decide +kernel
theorem dX12_close_65 : decode cX12_close 65 = .ok (.istore_n 2, 1) := by decide +kernel
theorem dX12_close_66 : decode cX12_close 66 = .ok (.goto (-38), 3) := by decide +kernel
theorem dX12_close_69 : decode cX12_close 69 = .ok (.aload_n 0, 1) := by decide +kernel
theorem dX12_close_70 : decode cX12_close 70 = .ok (.dup, 1) := by decide +kernel
theorem dX12_close_71 : decode cX12_close 71 = .ok (.getfield 380, 3) := by decide +kernel
theorem dX12_close_74 : decode cX12_close 74 = .ok (.iconst 1, 1) := by decide +kernel
theorem dX12_close_75 : decode cX12_close 75 = .ok (.isub, 1) := by decide +kernel
theorem dX12_close_76 : decode cX12_close 76 = .ok (.putfield 380, 3) := by decide +kernel
theorem dX12_close_79 : decode cX12_close 79 = .ok (.aload_n 0, 1) := by decide +kernel
theorem dX12_close_80 : decode cX12_close 80 = .ok (.iload_n 2, 1) := by decide +kernel
theorem dX12_close_81 : decode cX12_close 81 = .ok (.invokevirtual 393, 3) := by decide +kernel
theorem dX12_close_84 : decode cX12_close 84 = .ok (.return_, 1) := by decide +kernel

section
variable {p : Program} {l : Launch} {e : Env} {R : Room} {s : State} {m : MethodId} {args : Array Value} {below : List Frame} {meth : Method} {c : Code} {H : Heap} {locs : List Loc} {Qf : State → Prop}
variable {ls : Array Slot} {D : va_G} {ca : Nat → ClassId} {A : Nat → Prop} {h0 : Nat} {ad : Nat → Nat} {H0 : Heap} {u : iST}
def w_close_28b (R28 : Int → Int → iST → Prop) (Q : iST → Prop) (x1 : Int) (x2 : Int) (u : iST) : Prop :=
  rd (u.1 32) (fun v4 => 
  bd x1 40 (rd (u.2.1 27 x1) (fun v5 => 
  br (v4 ≤ v5) (
    rd (u.1 30) (fun v6 => 
    ov (v6 - 1) (
    sw (iI u 30 (v6 - 1)) (fun u => 
    w_deliver x2 (fun u => 
    Q u) u)))) (
    rd (u.1 32) (fun v9 => 
    ov (v9 - 1) (
    sw (iI u 32 (v9 - 1)) (fun u => 
    rd (u.1 32) (fun v11 => 
    bd v11 1100 (rd (u.2.1 31 v11) (fun v12 => 
    w_pair v12 x2 (fun v13 u => 
    R28 x1 v13 u) u))))))))))
def w_close_28 (Q : iST → Prop) (x1 : Int) (x2 : Int) (u : iST) : Prop := ∀ R28 : Int → Int → iST → Prop, (∀ (x1 : Int) (x2 : Int) (u : iST), w_close_28b R28 Q x1 x2 u → R28 x1 x2 u) → R28 x1 x2 u
set_option maxRecDepth 20000 in
set_option maxHeartbeats 4000000 in
theorem b_close_28 (X : kX p m c cX12_close 3 s args D ca) (hRf : 5 ≤ R.frames) (hRl : 112 ≤ R.locals) {Q : iST → Prop} (hret : ∀ (u : iST) (H : Heap) (locs : List Loc) (ls : Array Slot) (pc : Nat), Q u → kW D ca A h0 ad H0 H locs u → decode cX12_close pc = .ok (.return_, 1) → W p l e R s m args below meth c H locs 0 0 Qf (F0 m pc ls [])) {x1 x2 : Int} (rx1 : inR x1) (rx2 : inR x2) (hw : kW D ca A h0 ad H0 H locs u) (hl : lv_has ls 3 [(0, .ref h0), (1, .int (jI x1)), (2, .int (jI x2))]) (h : w_close_28 Q x1 x2 u) : W p l e R s m args below meth c H locs 0 0 Qf (F0 m 28 ls []) := by
  refine h (fun x1 x2 u => ∀ (H : Heap) (locs : List Loc) (ls : Array Slot), inR x1 → inR x2 → kW D ca A h0 ad H0 H locs u → lv_has ls 3 [(0, .ref h0), (1, .int (jI x1)), (2, .int (jI x2))] → W p l e R s m args below meth c H locs 0 0 Qf (F0 m 28 ls [])) ?_ H locs ls rx1 rx2 hw hl
  clear h hl hw rx1 rx2
  intro x1 x2 u h H locs ls rx1 rx2 hw hl
  have hR28 : ∀ (x1 : Int) (x2 : Int) (u : iST) (H : Heap) (locs : List Loc) (ls : Array Slot), inR x1 → inR x2 → kW D ca A h0 ad H0 H locs u → lv_has ls 3 [(0, .ref h0), (1, .int (jI x1)), (2, .int (jI x2))] → (fun (x1 : Int) (x2 : Int) u => ∀ (H : Heap) (locs : List Loc) (ls : Array Slot), inR x1 → inR x2 → kW D ca A h0 ad H0 H locs u → lv_has ls 3 [(0, .ref h0), (1, .int (jI x1)), (2, .int (jI x2))] → W p l e R s m args below meth c H locs 0 0 Qf (F0 m 28 ls [])) x1 x2 u → W p l e R s m args below meth c H locs 0 0 Qf (F0 m 28 ls []) := fun x1 x2 u H locs ls rx1 rx2 hw hl h => h H locs ls rx1 rx2 hw hl
  have hx := X.1.1
  have hb := X.1.2.1
  unfold w_close_28b at h
  refine lv_aload_n hx hb dX12_close_28 rfl (lv_at hl 0 rfl) ?_
  refine gS 32 387 (by decide) L_32 (fun _ _ => mF_32) rfl X hw dX12_close_29 h (fun v4 rv4 h => ?_)
  refine lv_aload_n hx hb dX12_close_32 rfl (lv_at hl 0 rfl) ?_
  refine gA 27 66 (by decide) L_27 (fun _ _ => mF_27) rfl X hw dX12_close_33 ?_
  refine lv_iload_n hx hb dX12_close_36 rfl (lv_at hl 1 rfl) ?_
  refine aL 27 17 16 40 (fun _ _ _ _ => mG_27) (fun _ => rfl) X hw rx1 dX12_close_37 rfl h (fun v5 rv5 h => ?_)
  refine k_icmp_le hx hb rv4 rv5 dX12_close_38 (tgt := 69) rfl h (fun h => ?_) (fun h => ?_)
  · refine lv_aload_n hx hb dX12_close_69 rfl (lv_at hl 0 rfl) ?_
    refine lv_dup hx hb dX12_close_70 rfl ?_
    refine gS 30 380 (by decide) L_30 (fun _ _ => mF_30) rfl X hw dX12_close_71 h (fun v6 rv6 h => ?_)
    refine lv_iconst hx hb dX12_close_74 (v := jI 1) rfl ?_
    refine k_isub hx hb dX12_close_75 h (fun r7 h => ?_)
    refine pS 30 380 (by decide) L_30 rfl rfl rfl (fun _ _ _ _ _ => mSI_30) (by decide) X hw r7 dX12_close_76 h (fun H locs u hw h => ?_)
    refine lv_aload_n hx hb dX12_close_79 rfl (lv_at hl 0 rfl) ?_
    refine lv_iload_n hx hb dX12_close_80 rfl (lv_at hl 2 rfl) ?_
    refine kcV (n := 1) (c_deliver rx2 h) G_deliver E_deliver X hw (Nat.le_trans (Nat.le_of_ble_eq_true rfl) hRf) (Nat.le_trans (Nat.le_of_ble_eq_true rfl) hRl) rfl hl.1 (Nat.le_of_ble_eq_true rfl) rfl dX12_close_81 (fun u H locs h hw => ?_)
    exact hret _ _ _ _ _ h hw dX12_close_84
  · refine lv_aload_n hx hb dX12_close_41 rfl (lv_at hl 0 rfl) ?_
    refine lv_dup hx hb dX12_close_42 rfl ?_
    refine gS 32 387 (by decide) L_32 (fun _ _ => mF_32) rfl X hw dX12_close_43 h (fun v9 rv9 h => ?_)
    refine lv_iconst hx hb dX12_close_46 (v := jI 1) rfl ?_
    refine k_isub hx hb dX12_close_47 h (fun r10 h => ?_)
    refine pS 32 387 (by decide) L_32 rfl rfl rfl (fun _ _ _ _ _ => mSI_32) (by decide) X hw r10 dX12_close_48 h (fun H locs u hw h => ?_)
    refine lv_aload_n hx hb dX12_close_51 rfl (lv_at hl 0 rfl) ?_
    refine lv_aload_n hx hb dX12_close_52 rfl (lv_at hl 0 rfl) ?_
    refine gA 31 75 (by decide) L_31 (fun _ _ => mF_31) rfl X hw dX12_close_53 ?_
    refine lv_aload_n hx hb dX12_close_56 rfl (lv_at hl 0 rfl) ?_
    refine gS 32 387 (by decide) L_32 (fun _ _ => mF_32) rfl X hw dX12_close_57 h (fun v11 rv11 h => ?_)
    refine aL 31 20 19 1100 (fun _ _ _ _ => mG_31) (fun _ => rfl) X hw rv11 dX12_close_60 rfl h (fun v12 rv12 h => ?_)
    refine lv_iload_n hx hb dX12_close_61 rfl (lv_at hl 2 rfl) ?_
    refine kcI (n := 2) (c_pair rv12 rx2 h) G_pair E_pair X hw (Nat.le_trans (Nat.le_of_ble_eq_true rfl) hRf) (Nat.le_trans (Nat.le_of_ble_eq_true rfl) hRl) rfl hl.1 (Nat.le_of_ble_eq_true rfl) rfl dX12_close_62 (fun v13 u H locs rv13 h hw => ?_)
    refine lv_istore_n hx hb dX12_close_65 rfl hl (by decide) rfl (fun ls hl => ?_)
    have hl : lv_has ls 3 [(2, .int (jI v13)), (0, .ref (h0)), (1, .int (jI x1))] := hl
    refine lv_goto hx hb dX12_close_66 (tgt := 28) rfl ?_
    exact hR28 _ _ _ H locs ls rx1 rv13 hw (lv_sub hl [1, 2, 0] rfl) h

def w_close_27 (Q : iST → Prop) (x1 : Int) (y0 : Int) (u : iST) : Prop :=
  w_close_28 Q x1 y0 u
set_option maxRecDepth 20000 in
set_option maxHeartbeats 4000000 in
theorem b_close_27 (X : kX p m c cX12_close 3 s args D ca) (hRf : 5 ≤ R.frames) (hRl : 112 ≤ R.locals) {Q : iST → Prop} (hret : ∀ (u : iST) (H : Heap) (locs : List Loc) (ls : Array Slot) (pc : Nat), Q u → kW D ca A h0 ad H0 H locs u → decode cX12_close pc = .ok (.return_, 1) → W p l e R s m args below meth c H locs 0 0 Qf (F0 m pc ls [])) {x1 y0 : Int} (rx1 : inR x1) (ry0 : inR y0) (hw : kW D ca A h0 ad H0 H locs u) (hl : lv_has ls 3 [(0, .ref h0), (1, .int (jI x1))]) (h : w_close_27 Q x1 y0 u) : W p l e R s m args below meth c H locs 0 0 Qf (F0 m 27 ls [.int (jI y0)]) := by
  have hx := X.1.1
  have hb := X.1.2.1
  unfold w_close_27 at h
  refine lv_istore_n hx hb dX12_close_27 rfl hl (by decide) rfl (fun ls hl => ?_)
  have hl : lv_has ls 3 [(2, .int (jI y0)), (0, .ref (h0)), (1, .int (jI x1))] := hl
  exact b_close_28 X hRf hRl hret rx1 ry0 hw (lv_sub hl [1, 2, 0] rfl) h

def w_close (Q : iST → Prop) (u : iST) : Prop :=
  rd (u.1 30) (fun v1 => 
  ov (v1 - 1) (
  bd (v1 - 1) 40 (rd (u.2.1 28 (v1 - 1)) (fun v3 => 
  br (v3 ≠ 2) (
    w_close_27 Q (v1 - 1) 0 u) (
    bd (v1 - 1) 40 (rd (u.2.1 29 (v1 - 1)) (fun v14 => 
    w_close_27 Q (v1 - 1) v14 u)))))))
set_option maxRecDepth 20000 in
set_option maxHeartbeats 4000000 in
theorem b_close_s (X : kX p m c cX12_close 3 s args D ca) (hRf : 5 ≤ R.frames) (hRl : 112 ≤ R.locals) {Q : iST → Prop} (hret : ∀ (u : iST) (H : Heap) (locs : List Loc) (ls : Array Slot) (pc : Nat), Q u → kW D ca A h0 ad H0 H locs u → decode cX12_close pc = .ok (.return_, 1) → W p l e R s m args below meth c H locs 0 0 Qf (F0 m pc ls [])) (hw : kW D ca A h0 ad H0 H locs u) (hl : lv_has ls 3 [(0, .ref h0)]) (h : w_close Q u) : W p l e R s m args below meth c H locs 0 0 Qf (F0 m 0 ls []) := by
  have hx := X.1.1
  have hb := X.1.2.1
  unfold w_close at h
  refine lv_aload_n hx hb dX12_close_0 rfl (lv_at hl 0 rfl) ?_
  refine gS 30 380 (by decide) L_30 (fun _ _ => mF_30) rfl X hw dX12_close_1 h (fun v1 rv1 h => ?_)
  refine lv_iconst hx hb dX12_close_4 (v := jI 1) rfl ?_
  refine k_isub hx hb dX12_close_5 h (fun r2 h => ?_)
  refine lv_istore_n hx hb dX12_close_6 rfl hl (by decide) rfl (fun ls hl => ?_)
  have hl : lv_has ls 3 [(1, .int (jI (v1 - 1))), (0, .ref (h0))] := hl
  refine lv_aload_n hx hb dX12_close_7 rfl (lv_at hl 1 rfl) ?_
  refine gA 28 69 (by decide) L_28 (fun _ _ => mF_28) rfl X hw dX12_close_8 ?_
  refine lv_iload_n hx hb dX12_close_11 rfl (lv_at hl 0 rfl) ?_
  refine aL 28 18 17 40 (fun _ _ _ _ => mG_28) (fun _ => rfl) X hw r2 dX12_close_12 rfl h (fun v3 rv3 h => ?_)
  refine lv_iconst hx hb dX12_close_13 (v := jI 2) rfl ?_
  refine k_icmp_ne hx hb rv3 (by decide) dX12_close_14 (tgt := 26) rfl h (fun h => ?_) (fun h => ?_)
  · refine lv_iconst hx hb dX12_close_26 (v := jI 0) rfl ?_
    exact b_close_27 X hRf hRl hret r2 (by decide) hw (lv_sub hl [1, 0] rfl) h
  · refine lv_aload_n hx hb dX12_close_17 rfl (lv_at hl 1 rfl) ?_
    refine gA 29 72 (by decide) L_29 (fun _ _ => mF_29) rfl X hw dX12_close_18 ?_
    refine lv_iload_n hx hb dX12_close_21 rfl (lv_at hl 0 rfl) ?_
    refine aL 29 19 18 40 (fun _ _ _ _ => mG_29) (fun _ => rfl) X hw r2 dX12_close_22 rfl h (fun v14 rv14 h => ?_)
    refine lv_goto hx hb dX12_close_23 (tgt := 27) rfl ?_
    exact b_close_27 X hRf hRl hret r2 rv14 hw (lv_sub hl [1, 0] rfl) h

end
theorem c_close {l : Launch} {Q : iST → Prop} {u : iST} (h : w_close Q u) : kMV l yX12_close (.code yX12_close cX12_close 3 none :: wsM) { frames := 5, cells := 0, slots := 0, locals := 112 } [] Q u := kMV_of rfl (fun _ => Nat.le_of_ble_eq_true rfl) (fun X hRf hRl hret hw hl => b_close_s X hRf hRl hret hw hl h)

/-! atom -/
theorem dX12_atom_0 : decode cX12_atom 0 = .ok (.iconst 1, 1) := by decide +kernel
theorem dX12_atom_1 : decode cX12_atom 1 = .ok (.istore_n 3, 1) := by decide +kernel
theorem dX12_atom_2 : decode cX12_atom 2 = .ok (.iload_n 1, 1) := by decide +kernel
theorem dX12_atom_3 : decode cX12_atom 3 = .ok (.istore 4, 2) := by decide +kernel
theorem dX12_atom_5 : decode cX12_atom 5 = .ok (.iload 4, 2) := by decide +kernel
theorem dX12_atom_7 : decode cX12_atom 7 = .ok (.iload_n 2, 1) := by decide +kernel
theorem dX12_atom_8 : decode cX12_atom 8 = .ok (.if_icmp .ge 32, 3) := by decide +kernel
theorem dX12_atom_11 : decode cX12_atom 11 = .ok (.iload_n 3, 1) := by decide +kernel
theorem dX12_atom_12 : decode cX12_atom 12 = .ok (.ifCond .eq 20, 3) := by decide +kernel
theorem dX12_atom_15 : decode cX12_atom 15 = .ok (.aload_n 0, 1) := by decide +kernel
theorem dX12_atom_16 : decode cX12_atom 16 = .ok (.getfield 44, 3) := by decide +kernel
theorem dX12_atom_19 : decode cX12_atom 19 = .ok (.iload 4, 2) := by decide +kernel
theorem dX12_atom_21 : decode cX12_atom 21 = .ok (.iaload, 1) := by decide +kernel
theorem dX12_atom_22 : decode cX12_atom 22 = .ok (.invokestatic 368, 3) := by decide +kernel
theorem dX12_atom_25 : decode cX12_atom 25 = .ok (.ifCond .eq 7, 3) := by decide +kernel
theorem dX12_atom_28 : decode cX12_atom 28 = .ok (.iconst 1, 1) := by decide +kernel
theorem dX12_atom_29 : decode cX12_atom 29 = .ok (.goto 4, 3) := by decide +kernel
theorem dX12_atom_32 : decode cX12_atom 32 = .ok (.iconst 0, 1) := by decide +kernel
theorem dX12_atom_33 : decode cX12_atom 33 = .ok (.istore_n 3, 1) := by decide +kernel
theorem dX12_atom_34 : decode cX12_atom 34 = .ok (.iinc 4 1, 3) := by decide +kernel
theorem dX12_atom_37 : decode cX12_atom 37 = .ok (.goto (-32), 3) := by decide +kernel
theorem dX12_atom_40 : decode cX12_atom 40 = .ok (.iload_n 3, 1) := by decide +kernel
theorem dX12_atom_41 : decode cX12_atom 41 = .ok (.ifCond .eq 76, 3) := by decide +kernel
theorem dX12_atom_44 : decode cX12_atom 44 = .ok (.lconst 0, 1) := by decide +kernel
theorem dX12_atom_45 : decode cX12_atom 45 = .ok (.lstore 4, 2) := by decide +kernel
theorem dX12_atom_47 : decode cX12_atom 47 = .ok (.iload_n 1, 1) := by decide +kernel
theorem dX12_atom_48 : decode cX12_atom 48 = .ok (.istore 6, 2) := by decide +kernel
theorem dX12_atom_50 : decode cX12_atom 50 = .ok (.iload 6, 2) := by decide +kernel
theorem dX12_atom_52 : decode cX12_atom 52 = .ok (.iload_n 2, 1) := by decide +kernel
theorem dX12_atom_53 : decode cX12_atom 53 = .ok (.if_icmp .ge 57, 3) := by decide +kernel
theorem dX12_atom_56 : decode cX12_atom 56 = .ok (.lload 4, 2) := by decide +kernel
theorem dX12_atom_58 : decode cX12_atom 58 = .ok (.ldc2_w 396, 3) := by decide +kernel
theorem dX12_atom_61 : decode cX12_atom 61 = .ok (.aload_n 0, 1) := by decide +kernel
theorem dX12_atom_62 : decode cX12_atom 62 = .ok (.getfield 44, 3) := by decide +kernel
theorem dX12_atom_65 : decode cX12_atom 65 = .ok (.iload 6, 2) := by decide +kernel
theorem dX12_atom_67 : decode cX12_atom 67 = .ok (.iaload, 1) := by decide +kernel
theorem dX12_atom_68 : decode cX12_atom 68 = .ok (.bipush 48, 2) := by decide +kernel
theorem dX12_atom_70 : decode cX12_atom 70 = .ok (.isub, 1) := by decide +kernel
theorem dX12_atom_71 : decode cX12_atom 71 = .ok (.i2l, 1) := by decide +kernel
theorem dX12_atom_72 : decode cX12_atom 72 = .ok (.lsub, 1) := by decide +kernel
theorem dX12_atom_73 : decode cX12_atom 73 = .ok (.ldc2_w 398, 3) := by decide +kernel
theorem dX12_atom_76 : decode cX12_atom 76 = .ok (.ldiv, 1) := by decide +kernel
theorem dX12_atom_77 : decode cX12_atom 77 = .ok (.lcmp, 1) := by decide +kernel
theorem dX12_atom_78 : decode cX12_atom 78 = .ok (.ifCond .le 5, 3) := by decide +kernel
theorem dX12_atom_81 : decode cX12_atom 81 = .ok (.iconst (-1), 1) := by decide +kernel
theorem dX12_atom_82 : decode cX12_atom 82 = .ok (.ireturn, 1) := by decide +kernel
theorem dX12_atom_83 : decode cX12_atom 83 = .ok (.ldc2_w 398, 3) := by decide +kernel
theorem dX12_atom_86 : decode cX12_atom 86 = .ok (.lload 4, 2) := by decide +kernel
theorem dX12_atom_88 : decode cX12_atom 88 = .ok (.lmul, 1) := by decide +kernel
theorem dX12_atom_89 : decode cX12_atom 89 = .ok (.aload_n 0, 1) := by decide +kernel
theorem dX12_atom_90 : decode cX12_atom 90 = .ok (.getfield 44, 3) := by decide +kernel
theorem dX12_atom_93 : decode cX12_atom 93 = .ok (.iload 6, 2) := by decide +kernel
theorem dX12_atom_95 : decode cX12_atom 95 = .ok (.iaload, 1) := by decide +kernel
theorem dX12_atom_96 : decode cX12_atom 96 = .ok (.i2l, 1) := by decide +kernel
theorem dX12_atom_97 : decode cX12_atom 97 = .ok (.ladd, 1) := by decide +kernel
theorem dX12_atom_98 : decode cX12_atom 98 = .ok (.ldc2_w 400, 3) := by decide +kernel
theorem dX12_atom_101 : decode cX12_atom 101 = .ok (.lsub, 1) := by decide +kernel
theorem dX12_atom_102 : decode cX12_atom 102 = .ok (.lstore 4, 2) := by decide +kernel
theorem dX12_atom_104 : decode cX12_atom 104 = .ok (.iinc 6 1, 3) := by decide +kernel
theorem dX12_atom_107 : decode cX12_atom 107 = .ok (.goto (-57), 3) := by decide +kernel
theorem dX12_atom_110 : decode cX12_atom 110 = .ok (.aload_n 0, 1) := by decide +kernel
theorem dX12_atom_111 : decode cX12_atom 111 = .ok (.lload 4, 2) := by decide +kernel
theorem dX12_atom_113 : decode cX12_atom 113 = .ok (.invokevirtual 402, 3) := by decide +kernel
theorem dX12_atom_116 : decode cX12_atom 116 = .ok (.ireturn, 1) := by decide +kernel
theorem dX12_atom_117 : decode cX12_atom 117 = .ok (.iload_n 2, 1) := by decide +kernel
theorem dX12_atom_118 : decode cX12_atom 118 = .ok (.iload_n 1, 1) := by decide +kernel
theorem dX12_atom_119 : decode cX12_atom 119 = .ok (.isub, 1) := by decide +kernel
theorem dX12_atom_120 : decode cX12_atom 120 = .ok (.bipush 11, 2) := by decide +kernel
theorem dX12_atom_122 : decode cX12_atom 122 = .ok (.if_icmp .le 5, 3) := by decide +kernel
theorem dX12_atom_125 : decode cX12_atom 125 = .ok (.iconst (-1), 1) := by decide +kernel
theorem dX12_atom_126 : decode cX12_atom 126 = .ok (.ireturn, 1) := by decide +kernel
theorem dX12_atom_127 : decode cX12_atom 127 = .ok (.aload_n 0, 1) := by decide +kernel
theorem dX12_atom_128 : decode cX12_atom 128 = .ok (.iconst 0, 1) := by decide +kernel
theorem dX12_atom_129 : decode cX12_atom 129 = .ok (.putfield 309, 3) := by decide +kernel
theorem dX12_atom_132 : decode cX12_atom 132 = .ok (.iload_n 1, 1) := by decide +kernel
theorem dX12_atom_133 : decode cX12_atom 133 = .ok (.istore 4, 2) := by decide +kernel
theorem dX12_atom_135 : decode cX12_atom 135 = .ok (.iload 4, 2) := by decide +kernel
theorem dX12_atom_137 : decode cX12_atom 137 = .ok (.iload_n 2, 1) := by decide +kernel
theorem dX12_atom_138 : decode cX12_atom 138 = .ok (.if_icmp .ge 20, 3) := by decide +kernel
theorem dX12_atom_141 : decode cX12_atom 141 = .ok (.aload_n 0, 1) := by decide +kernel
theorem dX12_atom_142 : decode cX12_atom 142 = .ok (.aload_n 0, 1) := by decide +kernel
theorem dX12_atom_143 : decode cX12_atom 143 = .ok (.getfield 44, 3) := by decide +kernel
theorem dX12_atom_146 : decode cX12_atom 146 = .ok (.iload 4, 2) := by decide +kernel
theorem dX12_atom_148 : decode cX12_atom 148 = .ok (.iaload, 1) := by decide +kernel
theorem dX12_atom_149 : decode cX12_atom 149 = .ok (.invokevirtual 312, 3) := by decide +kernel
theorem dX12_atom_152 : decode cX12_atom 152 = .ok (.iinc 4 1, 3) := by decide +kernel
theorem dX12_atom_155 : decode cX12_atom 155 = .ok (.goto (-20), 3) := by decide +kernel
theorem dX12_atom_158 : decode cX12_atom 158 = .ok (.aload_n 0, 1) := by decide +kernel
theorem dX12_atom_159 : decode cX12_atom 159 = .ok (.invokevirtual 316, 3) := by decide +kernel
theorem dX12_atom_162 : decode cX12_atom 162 = .ok (.ireturn, 1) := by decide +kernel

section
variable {p : Program} {l : Launch} {e : Env} {R : Room} {s : State} {m : MethodId} {args : Array Value} {below : List Frame} {meth : Method} {c : Code} {H : Heap} {locs : List Loc} {Qf : State → Prop}
variable {ls : Array Slot} {D : va_G} {ca : Nat → ClassId} {A : Nat → Prop} {h0 : Nat} {ad : Nat → Nat} {H0 : Heap} {u : iST}
def w_atom_135b (R135 : Int → Int → iST → Prop) (Q : Int → iST → Prop) (x2 : Int) (x4 : Int) (u : iST) : Prop :=
  br (x2 ≤ x4) (
    w_symbol (fun v2 u => 
    Q v2 u) u) (
    bd x4 3000 (rd (u.2.1 13 x4) (fun v3 => 
    w_spell v3 (fun u => 
    ov (x4 + 1) (
    R135 x2 (x4 + 1) u)) u)))
def w_atom_135 (Q : Int → iST → Prop) (x2 : Int) (x4 : Int) (u : iST) : Prop := ∀ R135 : Int → Int → iST → Prop, (∀ (x2 : Int) (x4 : Int) (u : iST), w_atom_135b R135 Q x2 x4 u → R135 x2 x4 u) → R135 x2 x4 u
set_option maxRecDepth 20000 in
set_option maxHeartbeats 4000000 in
theorem b_atom_135 (X : kX p m c cX12_atom 7 s args D ca) (hRf : 2 ≤ R.frames) (hRl : 47 ≤ R.locals) {Q : Int → iST → Prop} (hret : ∀ (v : Int) (u : iST) (H : Heap) (locs : List Loc) (ls : Array Slot) (pc : Nat), inR v → Q v u → kW D ca A h0 ad H0 H locs u → decode cX12_atom pc = .ok (.ireturn, 1) → W p l e R s m args below meth c H locs 0 0 Qf (F0 m pc ls [.int (jI v)])) {x2 x4 : Int} (rx2 : inR x2) (rx4 : inR x4) (hw : kW D ca A h0 ad H0 H locs u) (hl : lv_has ls 7 [(0, .ref h0), (2, .int (jI x2)), (4, .int (jI x4))]) (h : w_atom_135 Q x2 x4 u) : W p l e R s m args below meth c H locs 0 0 Qf (F0 m 135 ls []) := by
  refine h (fun x2 x4 u => ∀ (H : Heap) (locs : List Loc) (ls : Array Slot), inR x2 → inR x4 → kW D ca A h0 ad H0 H locs u → lv_has ls 7 [(0, .ref h0), (2, .int (jI x2)), (4, .int (jI x4))] → W p l e R s m args below meth c H locs 0 0 Qf (F0 m 135 ls [])) ?_ H locs ls rx2 rx4 hw hl
  clear h hl hw rx2 rx4
  intro x2 x4 u h H locs ls rx2 rx4 hw hl
  have hR135 : ∀ (x2 : Int) (x4 : Int) (u : iST) (H : Heap) (locs : List Loc) (ls : Array Slot), inR x2 → inR x4 → kW D ca A h0 ad H0 H locs u → lv_has ls 7 [(0, .ref h0), (2, .int (jI x2)), (4, .int (jI x4))] → (fun (x2 : Int) (x4 : Int) u => ∀ (H : Heap) (locs : List Loc) (ls : Array Slot), inR x2 → inR x4 → kW D ca A h0 ad H0 H locs u → lv_has ls 7 [(0, .ref h0), (2, .int (jI x2)), (4, .int (jI x4))] → W p l e R s m args below meth c H locs 0 0 Qf (F0 m 135 ls [])) x2 x4 u → W p l e R s m args below meth c H locs 0 0 Qf (F0 m 135 ls []) := fun x2 x4 u H locs ls rx2 rx4 hw hl h => h H locs ls rx2 rx4 hw hl
  have hx := X.1.1
  have hb := X.1.2.1
  unfold w_atom_135b at h
  refine lv_iload hx hb dX12_atom_135 (lv_at hl 2 rfl) ?_
  refine lv_iload_n hx hb dX12_atom_137 rfl (lv_at hl 1 rfl) ?_
  refine k_icmp_ge hx hb rx4 rx2 dX12_atom_138 (tgt := 158) rfl h (fun h => ?_) (fun h => ?_)
  · refine lv_aload_n hx hb dX12_atom_158 rfl (lv_at hl 0 rfl) ?_
    refine kcI (n := 0) (c_symbol h) G_symbol E_symbol X hw (Nat.le_trans (Nat.le_of_ble_eq_true rfl) hRf) (Nat.le_trans (Nat.le_of_ble_eq_true rfl) hRl) rfl hl.1 (Nat.le_of_ble_eq_true rfl) rfl dX12_atom_159 (fun v2 u H locs rv2 h hw => ?_)
    exact hret _ _ _ _ _ _ rv2 h hw dX12_atom_162
  · refine lv_aload_n hx hb dX12_atom_141 rfl (lv_at hl 0 rfl) ?_
    refine lv_aload_n hx hb dX12_atom_142 rfl (lv_at hl 0 rfl) ?_
    refine gA 13 44 (by decide) L_13 (fun _ _ => mF_13) rfl X hw dX12_atom_143 ?_
    refine lv_iload hx hb dX12_atom_146 (lv_at hl 2 rfl) ?_
    refine aL 13 11 10 3000 (fun _ _ _ _ => mG_13) (fun _ => rfl) X hw rx4 dX12_atom_148 rfl h (fun v3 rv3 h => ?_)
    refine kcV (n := 1) (c_spell rv3 h) G_spell E_spell X hw (Nat.le_trans (Nat.le_of_ble_eq_true rfl) hRf) (Nat.le_trans (Nat.le_of_ble_eq_true rfl) hRl) rfl hl.1 (Nat.le_of_ble_eq_true rfl) rfl dX12_atom_149 (fun u H locs h hw => ?_)
    refine k_iinc (k := 2) hx hb dX12_atom_152 hl rfl (by decide) rfl h (fun ls r5 h hl => ?_)
    have hl : lv_has ls 7 [(4, .int (jI (x4 + 1))), (0, .ref (h0)), (2, .int (jI x2))] := hl
    refine lv_goto hx hb dX12_atom_155 (tgt := 135) rfl ?_
    exact hR135 _ _ _ H locs ls rx2 r5 hw (lv_sub hl [1, 2, 0] rfl) h

def w_atom_50b (R50 : Int → Int → Int → iST → Prop) (Q : Int → iST → Prop) (x2 : Int) (x4 : Int) (x6 : Int) (u : iST) : Prop :=
  br (x2 ≤ x6) (
    w_natural x4 (fun v6 u => 
    Q v6 u) u) (
    bd x6 3000 (rd (u.2.1 13 x6) (fun v7 => 
    ov (v7 - 48) (
    ol (4611686018427387903 - (v7 - 48)) (
    (0 : Int) < 10 ∧ (
    br (x4 ≤ (Int.tdiv (4611686018427387903 - (v7 - 48)) 10)) (
      ol (10 * x4) (
      bd x6 3000 (rd (u.2.1 13 x6) (fun v13 => 
      ol ((10 * x4) + v13) (
      ol (((10 * x4) + v13) - 48) (
      ov (x6 + 1) (
      R50 x2 (((10 * x4) + v13) - 48) (x6 + 1) u))))))) (
      Q (-1) u)))))))
def w_atom_50 (Q : Int → iST → Prop) (x2 : Int) (x4 : Int) (x6 : Int) (u : iST) : Prop := ∀ R50 : Int → Int → Int → iST → Prop, (∀ (x2 : Int) (x4 : Int) (x6 : Int) (u : iST), w_atom_50b R50 Q x2 x4 x6 u → R50 x2 x4 x6 u) → R50 x2 x4 x6 u
set_option maxRecDepth 20000 in
set_option maxHeartbeats 4000000 in
theorem b_atom_50 (X : kX p m c cX12_atom 7 s args D ca) (hRf : 2 ≤ R.frames) (hRl : 47 ≤ R.locals) {Q : Int → iST → Prop} (hret : ∀ (v : Int) (u : iST) (H : Heap) (locs : List Loc) (ls : Array Slot) (pc : Nat), inR v → Q v u → kW D ca A h0 ad H0 H locs u → decode cX12_atom pc = .ok (.ireturn, 1) → W p l e R s m args below meth c H locs 0 0 Qf (F0 m pc ls [.int (jI v)])) {x2 x4 x6 : Int} (rx2 : inR x2) (rx4 : inL x4) (rx6 : inR x6) (hw : kW D ca A h0 ad H0 H locs u) (hl : lv_has ls 7 [(0, .ref h0), (2, .int (jI x2)), (4, .long (jL x4)), (6, .int (jI x6))]) (h : w_atom_50 Q x2 x4 x6 u) : W p l e R s m args below meth c H locs 0 0 Qf (F0 m 50 ls []) := by
  refine h (fun x2 x4 x6 u => ∀ (H : Heap) (locs : List Loc) (ls : Array Slot), inR x2 → inL x4 → inR x6 → kW D ca A h0 ad H0 H locs u → lv_has ls 7 [(0, .ref h0), (2, .int (jI x2)), (4, .long (jL x4)), (6, .int (jI x6))] → W p l e R s m args below meth c H locs 0 0 Qf (F0 m 50 ls [])) ?_ H locs ls rx2 rx4 rx6 hw hl
  clear h hl hw rx2 rx4 rx6
  intro x2 x4 x6 u h H locs ls rx2 rx4 rx6 hw hl
  have hR50 : ∀ (x2 : Int) (x4 : Int) (x6 : Int) (u : iST) (H : Heap) (locs : List Loc) (ls : Array Slot), inR x2 → inL x4 → inR x6 → kW D ca A h0 ad H0 H locs u → lv_has ls 7 [(0, .ref h0), (2, .int (jI x2)), (4, .long (jL x4)), (6, .int (jI x6))] → (fun (x2 : Int) (x4 : Int) (x6 : Int) u => ∀ (H : Heap) (locs : List Loc) (ls : Array Slot), inR x2 → inL x4 → inR x6 → kW D ca A h0 ad H0 H locs u → lv_has ls 7 [(0, .ref h0), (2, .int (jI x2)), (4, .long (jL x4)), (6, .int (jI x6))] → W p l e R s m args below meth c H locs 0 0 Qf (F0 m 50 ls [])) x2 x4 x6 u → W p l e R s m args below meth c H locs 0 0 Qf (F0 m 50 ls []) := fun x2 x4 x6 u H locs ls rx2 rx4 rx6 hw hl h => h H locs ls rx2 rx4 rx6 hw hl
  have hx := X.1.1
  have hb := X.1.2.1
  unfold w_atom_50b at h
  refine lv_iload hx hb dX12_atom_50 (lv_at hl 3 rfl) ?_
  refine lv_iload_n hx hb dX12_atom_52 rfl (lv_at hl 1 rfl) ?_
  refine k_icmp_ge hx hb rx6 rx2 dX12_atom_53 (tgt := 110) rfl h (fun h => ?_) (fun h => ?_)
  · refine lv_aload_n hx hb dX12_atom_110 rfl (lv_at hl 0 rfl) ?_
    refine lv_lload hx hb dX12_atom_111 (lv_at hl 2 rfl) ?_
    refine kcI (n := 1) (c_natural rx4 h) G_natural E_natural X hw (Nat.le_trans (Nat.le_of_ble_eq_true rfl) hRf) (Nat.le_trans (Nat.le_of_ble_eq_true rfl) hRl) rfl hl.1 (Nat.le_of_ble_eq_true rfl) rfl dX12_atom_113 (fun v6 u H locs rv6 h hw => ?_)
    exact hret _ _ _ _ _ _ rv6 h hw dX12_atom_116
  · refine lv_lload hx hb dX12_atom_56 (lv_at hl 2 rfl) ?_
    refine kld2 396 K_396 X dX12_atom_58 ?_
    refine lv_aload_n hx hb dX12_atom_61 rfl (lv_at hl 0 rfl) ?_
    refine gA 13 44 (by decide) L_13 (fun _ _ => mF_13) rfl X hw dX12_atom_62 ?_
    refine lv_iload hx hb dX12_atom_65 (lv_at hl 3 rfl) ?_
    refine aL 13 11 10 3000 (fun _ _ _ _ => mG_13) (fun _ => rfl) X hw rx6 dX12_atom_67 rfl h (fun v7 rv7 h => ?_)
    refine lv_bipush hx hb dX12_atom_68 (v := jI 48) rfl ?_
    refine k_isub hx hb dX12_atom_70 h (fun r8 h => ?_)
    refine k_i2l hx hb r8 dX12_atom_71 (fun r9 => ?_)
    refine k_lsub hx hb dX12_atom_72 h (fun r10 h => ?_)
    refine kld2 398 K_398 X dX12_atom_73 ?_
    refine k_ldiv hx hb r10 (by decide) dX12_atom_76 h (fun r11 h => ?_)
    refine k_lcmp_le hx hb rx4 r11 dX12_atom_77 dX12_atom_78 (tgt := 83) rfl h (fun h => ?_) (fun h => ?_)
    · refine kld2 398 K_398 X dX12_atom_83 ?_
      refine lv_lload hx hb dX12_atom_86 (lv_at hl 2 rfl) ?_
      refine k_lmul hx hb dX12_atom_88 h (fun r12 h => ?_)
      refine lv_aload_n hx hb dX12_atom_89 rfl (lv_at hl 0 rfl) ?_
      refine gA 13 44 (by decide) L_13 (fun _ _ => mF_13) rfl X hw dX12_atom_90 ?_
      refine lv_iload hx hb dX12_atom_93 (lv_at hl 3 rfl) ?_
      refine aL 13 11 10 3000 (fun _ _ _ _ => mG_13) (fun _ => rfl) X hw rx6 dX12_atom_95 rfl h (fun v13 rv13 h => ?_)
      refine k_i2l hx hb rv13 dX12_atom_96 (fun r14 => ?_)
      refine k_ladd hx hb dX12_atom_97 h (fun r15 h => ?_)
      refine kld2 400 K_400 X dX12_atom_98 ?_
      refine k_lsub hx hb dX12_atom_101 h (fun r16 h => ?_)
      refine lv_lstore hx hb dX12_atom_102 hl (by decide) rfl (fun ls hl => ?_)
      have hl : lv_has ls 7 [(4, .long (jL (((10 * x4) + v13) - 48))), (0, .ref (h0)), (2, .int (jI x2)), (6, .int (jI x6))] := hl
      refine k_iinc (k := 3) hx hb dX12_atom_104 hl rfl (by decide) rfl h (fun ls r17 h hl => ?_)
      have hl : lv_has ls 7 [(6, .int (jI (x6 + 1))), (4, .long (jL (((10 * x4) + v13) - 48))), (0, .ref (h0)), (2, .int (jI x2))] := hl
      refine lv_goto hx hb dX12_atom_107 (tgt := 50) rfl ?_
      exact hR50 _ _ _ _ H locs ls rx2 r16 r17 hw (lv_sub hl [2, 3, 1, 0] rfl) h
    · refine lv_iconst hx hb dX12_atom_81 (v := jI (-1)) rfl ?_
      exact hret _ _ _ _ _ _ (by decide) h hw dX12_atom_82

def w_atom_5b (R5 : Int → Int → Int → Int → iST → Prop) (Q : Int → iST → Prop) (x1 : Int) (x2 : Int) (x3 : Int) (x4 : Int) (u : iST) : Prop :=
  br (x2 ≤ x4) (
    br (x3 = 0) (
      ov (x2 - x1) (
      br ((x2 - x1) ≤ 11) (
        sw (iI u 18 0) (fun u => 
        w_atom_135 Q x2 x1 u)) (
        Q (-1) u))) (
      w_atom_50 Q x2 0 x1 u)) (
    br (x3 = 0) (
      ov (x4 + 1) (
      R5 x1 x2 0 (x4 + 1) u)) (
      bd x4 3000 (rd (u.2.1 13 x4) (fun v19 => 
      w_isDigit v19 (fun v20 u => 
      br (v20 = 0) (
        ov (x4 + 1) (
        R5 x1 x2 0 (x4 + 1) u)) (
        ov (x4 + 1) (
        R5 x1 x2 1 (x4 + 1) u))) u))))
def w_atom_5 (Q : Int → iST → Prop) (x1 : Int) (x2 : Int) (x3 : Int) (x4 : Int) (u : iST) : Prop := ∀ R5 : Int → Int → Int → Int → iST → Prop, (∀ (x1 : Int) (x2 : Int) (x3 : Int) (x4 : Int) (u : iST), w_atom_5b R5 Q x1 x2 x3 x4 u → R5 x1 x2 x3 x4 u) → R5 x1 x2 x3 x4 u
set_option maxRecDepth 20000 in
set_option maxHeartbeats 4000000 in
theorem b_atom_5 (X : kX p m c cX12_atom 7 s args D ca) (hRf : 2 ≤ R.frames) (hRl : 47 ≤ R.locals) {Q : Int → iST → Prop} (hret : ∀ (v : Int) (u : iST) (H : Heap) (locs : List Loc) (ls : Array Slot) (pc : Nat), inR v → Q v u → kW D ca A h0 ad H0 H locs u → decode cX12_atom pc = .ok (.ireturn, 1) → W p l e R s m args below meth c H locs 0 0 Qf (F0 m pc ls [.int (jI v)])) {x1 x2 x3 x4 : Int} (rx1 : inR x1) (rx2 : inR x2) (rx3 : inR x3) (rx4 : inR x4) (hw : kW D ca A h0 ad H0 H locs u) (hl : lv_has ls 7 [(0, .ref h0), (1, .int (jI x1)), (2, .int (jI x2)), (3, .int (jI x3)), (4, .int (jI x4))]) (h : w_atom_5 Q x1 x2 x3 x4 u) : W p l e R s m args below meth c H locs 0 0 Qf (F0 m 5 ls []) := by
  refine h (fun x1 x2 x3 x4 u => ∀ (H : Heap) (locs : List Loc) (ls : Array Slot), inR x1 → inR x2 → inR x3 → inR x4 → kW D ca A h0 ad H0 H locs u → lv_has ls 7 [(0, .ref h0), (1, .int (jI x1)), (2, .int (jI x2)), (3, .int (jI x3)), (4, .int (jI x4))] → W p l e R s m args below meth c H locs 0 0 Qf (F0 m 5 ls [])) ?_ H locs ls rx1 rx2 rx3 rx4 hw hl
  clear h hl hw rx1 rx2 rx3 rx4
  intro x1 x2 x3 x4 u h H locs ls rx1 rx2 rx3 rx4 hw hl
  have hR5 : ∀ (x1 : Int) (x2 : Int) (x3 : Int) (x4 : Int) (u : iST) (H : Heap) (locs : List Loc) (ls : Array Slot), inR x1 → inR x2 → inR x3 → inR x4 → kW D ca A h0 ad H0 H locs u → lv_has ls 7 [(0, .ref h0), (1, .int (jI x1)), (2, .int (jI x2)), (3, .int (jI x3)), (4, .int (jI x4))] → (fun (x1 : Int) (x2 : Int) (x3 : Int) (x4 : Int) u => ∀ (H : Heap) (locs : List Loc) (ls : Array Slot), inR x1 → inR x2 → inR x3 → inR x4 → kW D ca A h0 ad H0 H locs u → lv_has ls 7 [(0, .ref h0), (1, .int (jI x1)), (2, .int (jI x2)), (3, .int (jI x3)), (4, .int (jI x4))] → W p l e R s m args below meth c H locs 0 0 Qf (F0 m 5 ls [])) x1 x2 x3 x4 u → W p l e R s m args below meth c H locs 0 0 Qf (F0 m 5 ls []) := fun x1 x2 x3 x4 u H locs ls rx1 rx2 rx3 rx4 hw hl h => h H locs ls rx1 rx2 rx3 rx4 hw hl
  have hx := X.1.1
  have hb := X.1.2.1
  unfold w_atom_5b at h
  refine lv_iload hx hb dX12_atom_5 (lv_at hl 4 rfl) ?_
  refine lv_iload_n hx hb dX12_atom_7 rfl (lv_at hl 2 rfl) ?_
  refine k_icmp_ge hx hb rx4 rx2 dX12_atom_8 (tgt := 40) rfl h (fun h => ?_) (fun h => ?_)
  · refine lv_iload_n hx hb dX12_atom_40 rfl (lv_at hl 3 rfl) ?_
    refine k_if_eq hx hb rx3 dX12_atom_41 (tgt := 117) rfl h (fun h => ?_) (fun h => ?_)
    · refine lv_iload_n hx hb dX12_atom_117 rfl (lv_at hl 2 rfl) ?_
      refine lv_iload_n hx hb dX12_atom_118 rfl (lv_at hl 1 rfl) ?_
      refine k_isub hx hb dX12_atom_119 h (fun r1 h => ?_)
      refine lv_bipush hx hb dX12_atom_120 (v := jI 11) rfl ?_
      refine k_icmp_le hx hb r1 (by decide) dX12_atom_122 (tgt := 127) rfl h (fun h => ?_) (fun h => ?_)
      · refine lv_aload_n hx hb dX12_atom_127 rfl (lv_at hl 0 rfl) ?_
        refine lv_iconst hx hb dX12_atom_128 (v := jI 0) rfl ?_
        refine pS 18 309 (by decide) L_18 rfl rfl rfl (fun _ _ _ _ _ => mSI_18) (by decide) X hw (by decide) dX12_atom_129 h (fun H locs u hw h => ?_)
        refine lv_iload_n hx hb dX12_atom_132 rfl (lv_at hl 1 rfl) ?_
        refine lv_istore hx hb dX12_atom_133 hl (by decide) rfl (fun ls hl => ?_)
        have hl : lv_has ls 7 [(4, .int (jI x1)), (0, .ref (h0)), (1, .int (jI x1)), (2, .int (jI x2)), (3, .int (jI x3))] := hl
        exact b_atom_135 X hRf hRl hret rx2 rx1 hw (lv_sub hl [1, 3, 0] rfl) h
      · refine lv_iconst hx hb dX12_atom_125 (v := jI (-1)) rfl ?_
        exact hret _ _ _ _ _ _ (by decide) h hw dX12_atom_126
    · refine lv_lconst hx hb dX12_atom_44 (v := jL 0) rfl ?_
      refine lv_lstore hx hb dX12_atom_45 hl (by decide) rfl (fun ls hl => ?_)
      have hl : lv_has ls 7 [(4, .long (jL 0)), (0, .ref (h0)), (1, .int (jI x1)), (2, .int (jI x2)), (3, .int (jI x3))] := hl
      refine lv_iload_n hx hb dX12_atom_47 rfl (lv_at hl 2 rfl) ?_
      refine lv_istore hx hb dX12_atom_48 hl (by decide) rfl (fun ls hl => ?_)
      have hl : lv_has ls 7 [(6, .int (jI x1)), (4, .long (jL 0)), (0, .ref (h0)), (1, .int (jI x1)), (2, .int (jI x2)), (3, .int (jI x3))] := hl
      exact b_atom_50 X hRf hRl hret rx2 (by decide) rx1 hw (lv_sub hl [2, 4, 1, 0] rfl) h
  · refine lv_iload_n hx hb dX12_atom_11 rfl (lv_at hl 3 rfl) ?_
    refine k_if_eq hx hb rx3 dX12_atom_12 (tgt := 32) rfl h (fun h => ?_) (fun h => ?_)
    · refine lv_iconst hx hb dX12_atom_32 (v := jI 0) rfl ?_
      refine lv_istore_n hx hb dX12_atom_33 rfl hl (by decide) rfl (fun ls hl => ?_)
      have hl : lv_has ls 7 [(3, .int (jI 0)), (0, .ref (h0)), (1, .int (jI x1)), (2, .int (jI x2)), (4, .int (jI x4))] := hl
      refine k_iinc (k := 4) hx hb dX12_atom_34 hl rfl (by decide) rfl h (fun ls r18 h hl => ?_)
      have hl : lv_has ls 7 [(4, .int (jI (x4 + 1))), (3, .int (jI 0)), (0, .ref (h0)), (1, .int (jI x1)), (2, .int (jI x2))] := hl
      refine lv_goto hx hb dX12_atom_37 (tgt := 5) rfl ?_
      exact hR5 _ _ _ _ _ H locs ls rx1 rx2 (by decide) r18 hw (lv_sub hl [2, 3, 4, 1, 0] rfl) h
    · refine lv_aload_n hx hb dX12_atom_15 rfl (lv_at hl 0 rfl) ?_
      refine gA 13 44 (by decide) L_13 (fun _ _ => mF_13) rfl X hw dX12_atom_16 ?_
      refine lv_iload hx hb dX12_atom_19 (lv_at hl 4 rfl) ?_
      refine aL 13 11 10 3000 (fun _ _ _ _ => mG_13) (fun _ => rfl) X hw rx4 dX12_atom_21 rfl h (fun v19 rv19 h => ?_)
      refine kcT (n := 1) (c_isDigit rv19 h) G_isDigit E_isDigit X hw (Nat.le_trans (Nat.le_of_ble_eq_true rfl) hRf) (Nat.le_trans (Nat.le_of_ble_eq_true rfl) hRl) rfl hl.1 (Nat.le_of_ble_eq_true rfl) rfl dX12_atom_22 (fun v20 u H locs rv20 h hw => ?_)
      refine k_if_eq hx hb rv20 dX12_atom_25 (tgt := 32) rfl h (fun h => ?_) (fun h => ?_)
      · refine lv_iconst hx hb dX12_atom_32 (v := jI 0) rfl ?_
        refine lv_istore_n hx hb dX12_atom_33 rfl hl (by decide) rfl (fun ls hl => ?_)
        have hl : lv_has ls 7 [(3, .int (jI 0)), (0, .ref (h0)), (1, .int (jI x1)), (2, .int (jI x2)), (4, .int (jI x4))] := hl
        refine k_iinc (k := 4) hx hb dX12_atom_34 hl rfl (by decide) rfl h (fun ls r21 h hl => ?_)
        have hl : lv_has ls 7 [(4, .int (jI (x4 + 1))), (3, .int (jI 0)), (0, .ref (h0)), (1, .int (jI x1)), (2, .int (jI x2))] := hl
        refine lv_goto hx hb dX12_atom_37 (tgt := 5) rfl ?_
        exact hR5 _ _ _ _ _ H locs ls rx1 rx2 (by decide) r21 hw (lv_sub hl [2, 3, 4, 1, 0] rfl) h
      · refine lv_iconst hx hb dX12_atom_28 (v := jI 1) rfl ?_
        refine lv_goto hx hb dX12_atom_29 (tgt := 33) rfl ?_
        refine lv_istore_n hx hb dX12_atom_33 rfl hl (by decide) rfl (fun ls hl => ?_)
        have hl : lv_has ls 7 [(3, .int (jI 1)), (0, .ref (h0)), (1, .int (jI x1)), (2, .int (jI x2)), (4, .int (jI x4))] := hl
        refine k_iinc (k := 4) hx hb dX12_atom_34 hl rfl (by decide) rfl h (fun ls r22 h hl => ?_)
        have hl : lv_has ls 7 [(4, .int (jI (x4 + 1))), (3, .int (jI 1)), (0, .ref (h0)), (1, .int (jI x1)), (2, .int (jI x2))] := hl
        refine lv_goto hx hb dX12_atom_37 (tgt := 5) rfl ?_
        exact hR5 _ _ _ _ _ H locs ls rx1 rx2 (by decide) r22 hw (lv_sub hl [2, 3, 4, 1, 0] rfl) h

def w_atom (a0 : Int) (a1 : Int) (Q : Int → iST → Prop) (u : iST) : Prop :=
  w_atom_5 Q a0 a1 1 a0 u
set_option maxRecDepth 20000 in
set_option maxHeartbeats 4000000 in
theorem b_atom_s (X : kX p m c cX12_atom 7 s args D ca) (hRf : 2 ≤ R.frames) (hRl : 47 ≤ R.locals) {Q : Int → iST → Prop} (hret : ∀ (v : Int) (u : iST) (H : Heap) (locs : List Loc) (ls : Array Slot) (pc : Nat), inR v → Q v u → kW D ca A h0 ad H0 H locs u → decode cX12_atom pc = .ok (.ireturn, 1) → W p l e R s m args below meth c H locs 0 0 Qf (F0 m pc ls [.int (jI v)])) {a0 a1 : Int} (ra0 : inR a0) (ra1 : inR a1) (hw : kW D ca A h0 ad H0 H locs u) (hl : lv_has ls 7 [(0, .ref h0), (1, .int (jI a0)), (2, .int (jI a1))]) (h : w_atom a0 a1 Q u) : W p l e R s m args below meth c H locs 0 0 Qf (F0 m 0 ls []) := by
  have hx := X.1.1
  have hb := X.1.2.1
  unfold w_atom at h
  refine lv_iconst hx hb dX12_atom_0 (v := jI 1) rfl ?_
  refine lv_istore_n hx hb dX12_atom_1 rfl hl (by decide) rfl (fun ls hl => ?_)
  have hl : lv_has ls 7 [(3, .int (jI 1)), (0, .ref (h0)), (1, .int (jI a0)), (2, .int (jI a1))] := hl
  refine lv_iload_n hx hb dX12_atom_2 rfl (lv_at hl 2 rfl) ?_
  refine lv_istore hx hb dX12_atom_3 hl (by decide) rfl (fun ls hl => ?_)
  have hl : lv_has ls 7 [(4, .int (jI a0)), (3, .int (jI 1)), (0, .ref (h0)), (1, .int (jI a0)), (2, .int (jI a1))] := hl
  exact b_atom_5 X hRf hRl hret ra0 ra1 (by decide) ra0 hw (lv_sub hl [2, 3, 4, 1, 0] rfl) h

end
theorem c_atom {l : Launch} {a0 : Int} {a1 : Int} (ra0 : inR a0) (ra1 : inR a1) {Q : Int → iST → Prop} {u : iST} (h : w_atom a0 a1 Q u) : kMI l yX12_atom (.code yX12_atom cX12_atom 7 (some .int) :: wsM) { frames := 2, cells := 0, slots := 0, locals := 47 } [.int (jI a0), .int (jI a1)] Q u := kMI_of rfl (fun _ => Nat.le_of_ble_eq_true rfl) (fun X hRf hRl hret hw hl => b_atom_s X hRf hRl hret ra0 ra1 hw hl h)
