/-! spell -/
theorem dX12_spell_0 : decode cX12_spell 0 = .ok (.iload_n 1, 1) := by decide +kernel
theorem dX12_spell_1 : decode cX12_spell 1 = .ok (.ifCond .ne 4, 3) := by decide +kernel
theorem dX12_spell_4 : decode cX12_spell 4 = .ok (.return_, 1) := by decide +kernel
theorem dX12_spell_5 : decode cX12_spell 5 = .ok (.aload_n 0, 1) := by decide +kernel
theorem dX12_spell_6 : decode cX12_spell 6 = .ok (.getfield 50, 3) := by decide +kernel
theorem dX12_spell_9 : decode cX12_spell 9 = .ok (.aload_n 0, 1) := by decide +kernel
theorem dX12_spell_10 : decode cX12_spell 10 = .ok (.getfield 309, 3) := by decide +kernel
theorem dX12_spell_13 : decode cX12_spell 13 = .ok (.iload_n 1, 1) := by decide +kernel
theorem dX12_spell_14 : decode cX12_spell 14 = .ok (.iastore, 1) := by decide +kernel
theorem dX12_spell_15 : decode cX12_spell 15 = .ok (.aload_n 0, 1) := by decide +kernel
theorem dX12_spell_16 : decode cX12_spell 16 = .ok (.dup, 1) := by decide +kernel
theorem dX12_spell_17 : decode cX12_spell 17 = .ok (.getfield 309, 3) := by decide +kernel
theorem dX12_spell_20 : decode cX12_spell 20 = .ok (.iconst 1, 1) := by decide +kernel
theorem dX12_spell_21 : decode cX12_spell 21 = .ok (.iadd, 1) := by decide +kernel
theorem dX12_spell_22 : decode cX12_spell 22 = .ok (.putfield 309, 3) := by decide +kernel
theorem dX12_spell_25 : decode cX12_spell 25 = .ok (.return_, 1) := by decide +kernel

section
variable {p : Program} {l : Launch} {e : Env} {R : Room} {s : State} {m : MethodId} {args : Array Value} {below : List Frame} {meth : Method} {c : Code} {H : Heap} {locs : List Loc} {Qf : State → Prop}
variable {ls : Array Slot} {D : va_G} {ca : Nat → ClassId} {A : Nat → Prop} {h0 : Nat} {ad : Nat → Nat} {H0 : Heap} {u : iST}
def w_spell (a0 : Int) (Q : iST → Prop) (u : iST) : Prop :=
  br (a0 ≠ 0) (
    rd (u.1 18) (fun v1 => 
    bd v1 12 (sw (iA u 17 v1 a0) (fun u => 
    rd (u.1 18) (fun v2 => 
    ov (v2 + 1) (
    sw (iI u 18 (v2 + 1)) (fun u => 
    Q u))))))) (
    Q u)
set_option maxRecDepth 20000 in
set_option maxHeartbeats 4000000 in
theorem b_spell_s (X : kX p m c cX12_spell 2 s args D ca) (hRf : 0 ≤ R.frames) (hRl : 0 ≤ R.locals) {Q : iST → Prop} (hret : ∀ (u : iST) (H : Heap) (locs : List Loc) (ls : Array Slot) (pc : Nat), Q u → kW D ca A h0 ad H0 H locs u → decode cX12_spell pc = .ok (.return_, 1) → W p l e R s m args below meth c H locs 0 0 Qf (F0 m pc ls [])) {a0 : Int} (ra0 : inR a0) (hw : kW D ca A h0 ad H0 H locs u) (hl : lv_has ls 2 [(0, .ref h0), (1, .int (jI a0))]) (h : w_spell a0 Q u) : W p l e R s m args below meth c H locs 0 0 Qf (F0 m 0 ls []) := by
  have hx := X.1.1
  have hb := X.1.2.1
  unfold w_spell at h
  refine lv_iload_n hx hb dX12_spell_0 rfl (lv_at hl 1 rfl) ?_
  refine k_if_ne hx hb ra0 dX12_spell_1 (tgt := 5) rfl h (fun h => ?_) (fun h => ?_)
  · refine lv_aload_n hx hb dX12_spell_5 rfl (lv_at hl 0 rfl) ?_
    refine gA 17 50 (by decide) L_17 (fun _ _ => mF_17) rfl X hw dX12_spell_6 ?_
    refine lv_aload_n hx hb dX12_spell_9 rfl (lv_at hl 0 rfl) ?_
    refine gS 18 309 (by decide) L_18 (fun _ _ => mF_18) rfl X hw dX12_spell_10 h (fun v1 rv1 h => ?_)
    refine lv_iload_n hx hb dX12_spell_13 rfl (lv_at hl 1 rfl) ?_
    refine aS 17 13 12 12 (fun _ _ _ _ => mG_17) (fun _ => rfl) (fun _ _ _ _ _ _ => mSA_17) (by decide) X hw rv1 ra0 dX12_spell_14 rfl h (fun H locs u hw h => ?_)
    refine lv_aload_n hx hb dX12_spell_15 rfl (lv_at hl 0 rfl) ?_
    refine lv_dup hx hb dX12_spell_16 rfl ?_
    refine gS 18 309 (by decide) L_18 (fun _ _ => mF_18) rfl X hw dX12_spell_17 h (fun v2 rv2 h => ?_)
    refine lv_iconst hx hb dX12_spell_20 (v := jI 1) rfl ?_
    refine k_iadd hx hb dX12_spell_21 h (fun r3 h => ?_)
    refine pS 18 309 (by decide) L_18 rfl rfl rfl (fun _ _ _ _ _ => mSI_18) (by decide) X hw r3 dX12_spell_22 h (fun H locs u hw h => ?_)
    exact hret _ _ _ _ _ h hw dX12_spell_25
  · exact hret _ _ _ _ _ h hw dX12_spell_4

end
theorem c_spell {l : Launch} {a0 : Int} (ra0 : inR a0) {Q : iST → Prop} {u : iST} (h : w_spell a0 Q u) : kMV l yX12_spell (.code yX12_spell cX12_spell 2 none :: wsM) { frames := 0, cells := 0, slots := 0, locals := 0 } [.int (jI a0)] Q u := kMV_of rfl (fun _ => Nat.le_of_ble_eq_true rfl) (fun X hRf hRl hret hw hl => b_spell_s X hRf hRl hret ra0 hw hl h)

/-! spelled -/
theorem dX12_spelled_0 : decode cX12_spelled 0 = .ok (.iconst 5, 1) := by decide +kernel
theorem dX12_spelled_1 : decode cX12_spelled 1 = .ok (.istore 4, 2) := by decide +kernel
theorem dX12_spelled_3 : decode cX12_spelled 3 = .ok (.iconst 0, 1) := by decide +kernel
theorem dX12_spelled_4 : decode cX12_spelled 4 = .ok (.istore 5, 2) := by decide +kernel
theorem dX12_spelled_6 : decode cX12_spelled 6 = .ok (.iload 5, 2) := by decide +kernel
theorem dX12_spelled_8 : decode cX12_spelled 8 = .ok (.iload_n 2, 1) := by decide +kernel
theorem dX12_spelled_9 : decode cX12_spelled 9 = .ok (.if_icmp .ge 41, 3) := by decide +kernel
theorem dX12_spelled_12 : decode cX12_spelled 12 = .ok (.sipush 131, 3) := by decide +kernel
theorem dX12_spelled_15 : decode cX12_spelled 15 = .ok (.iload 4, 2) := by decide +kernel
theorem dX12_spelled_17 : decode cX12_spelled 17 = .ok (.imul, 1) := by decide +kernel
theorem dX12_spelled_18 : decode cX12_spelled 18 = .ok (.iload_n 3, 1) := by decide +kernel
theorem dX12_spelled_19 : decode cX12_spelled 19 = .ok (.ifCond .eq 13, 3) := by decide +kernel
theorem dX12_spelled_22 : decode cX12_spelled 22 = .ok (.aload_n 0, 1) := by decide +kernel
theorem dX12_spelled_23 : decode cX12_spelled 23 = .ok (.getfield 50, 3) := by decide +kernel
theorem dX12_spelled_26 : decode cX12_spelled 26 = .ok (.iload 5, 2) := by decide +kernel
theorem dX12_spelled_28 : decode cX12_spelled 28 = .ok (.iaload, 1) := by decide +kernel
theorem dX12_spelled_29 : decode cX12_spelled 29 = .ok (.goto 12, 3) := by decide +kernel
theorem dX12_spelled_32 : decode cX12_spelled 32 = .ok (.aload_n 0, 1) := by decide +kernel
theorem dX12_spelled_33 : decode cX12_spelled 33 = .ok (.getfield 35, 3) := by decide +kernel
theorem dX12_spelled_36 : decode cX12_spelled 36 = .ok (.iload_n 1, 1) := by decide +kernel
theorem dX12_spelled_37 : decode cX12_spelled 37 = .ok (.iload 5, 2) := by decide +kernel
theorem dX12_spelled_39 : decode cX12_spelled 39 = .ok (.iadd, 1) := by decide +kernel
theorem dX12_spelled_40 : decode cX12_spelled 40 = .ok (.iaload, 1) := by decide +kernel
theorem dX12_spelled_41 : decode cX12_spelled 41 = .ok (.iadd, 1) := by decide +kernel
theorem dX12_spelled_42 : decode cX12_spelled 42 = .ok (.istore 4, 2) := by decide +kernel
theorem dX12_spelled_44 : decode cX12_spelled 44 = .ok (.iinc 5 1, 3) := by decide +kernel
theorem dX12_spelled_47 : decode cX12_spelled 47 = .ok (.goto (-41), 3) := by decide +kernel
theorem dX12_spelled_50 : decode cX12_spelled 50 = .ok (.iload 4, 2) := by decide +kernel
theorem dX12_spelled_52 : decode cX12_spelled 52 = .ok (.sipush 8191, 3) := by decide +kernel
theorem dX12_spelled_55 : decode cX12_spelled 55 = .ok (.iand, 1) := by decide +kernel
theorem dX12_spelled_56 : decode cX12_spelled 56 = .ok (.ireturn, 1) := by decide +kernel

section
variable {p : Program} {l : Launch} {e : Env} {R : Room} {s : State} {m : MethodId} {args : Array Value} {below : List Frame} {meth : Method} {c : Code} {H : Heap} {locs : List Loc} {Qf : State → Prop}
variable {ls : Array Slot} {D : va_G} {ca : Nat → ClassId} {A : Nat → Prop} {h0 : Nat} {ad : Nat → Nat} {H0 : Heap} {u : iST}
def w_spelled_6b (R6 : Int → Int → Int → Int → Int → iST → Prop) (Q : Int → iST → Prop) (x1 : Int) (x2 : Int) (x3 : Int) (x4 : Int) (x5 : Int) (u : iST) : Prop :=
  br (x2 ≤ x5) (
    rd (wand x4 8191) (fun v1 => 
    Q v1 u)) (
    rd (wmul 131 x4) (fun v2 => 
    br (x3 = 0) (
      rd (wadd x1 x5) (fun v3 => 
      bd v3 252000 (rd (u.2.1 9 v3) (fun v4 => 
      rd (wadd v2 v4) (fun v5 => 
      ov (x5 + 1) (
      R6 x1 x2 x3 v5 (x5 + 1) u)))))) (
      bd x5 12 (rd (u.2.1 17 x5) (fun v7 => 
      rd (wadd v2 v7) (fun v8 => 
      ov (x5 + 1) (
      R6 x1 x2 x3 v8 (x5 + 1) u)))))))
def w_spelled_6 (Q : Int → iST → Prop) (x1 : Int) (x2 : Int) (x3 : Int) (x4 : Int) (x5 : Int) (u : iST) : Prop := ∀ R6 : Int → Int → Int → Int → Int → iST → Prop, (∀ (x1 : Int) (x2 : Int) (x3 : Int) (x4 : Int) (x5 : Int) (u : iST), w_spelled_6b R6 Q x1 x2 x3 x4 x5 u → R6 x1 x2 x3 x4 x5 u) → R6 x1 x2 x3 x4 x5 u
set_option maxRecDepth 20000 in
set_option maxHeartbeats 4000000 in
theorem b_spelled_6 (X : kX p m c cX12_spelled 6 s args D ca) (hRf : 0 ≤ R.frames) (hRl : 0 ≤ R.locals) {Q : Int → iST → Prop} (hret : ∀ (v : Int) (u : iST) (H : Heap) (locs : List Loc) (ls : Array Slot) (pc : Nat), inR v → Q v u → kW D ca A h0 ad H0 H locs u → decode cX12_spelled pc = .ok (.ireturn, 1) → W p l e R s m args below meth c H locs 0 0 Qf (F0 m pc ls [.int (jI v)])) {x1 x2 x3 x4 x5 : Int} (rx1 : inR x1) (rx2 : inR x2) (rx3 : inR x3) (rx4 : inR x4) (rx5 : inR x5) (hw : kW D ca A h0 ad H0 H locs u) (hl : lv_has ls 6 [(0, .ref h0), (1, .int (jI x1)), (2, .int (jI x2)), (3, .int (jI x3)), (4, .int (jI x4)), (5, .int (jI x5))]) (h : w_spelled_6 Q x1 x2 x3 x4 x5 u) : W p l e R s m args below meth c H locs 0 0 Qf (F0 m 6 ls []) := by
  refine h (fun x1 x2 x3 x4 x5 u => ∀ (H : Heap) (locs : List Loc) (ls : Array Slot), inR x1 → inR x2 → inR x3 → inR x4 → inR x5 → kW D ca A h0 ad H0 H locs u → lv_has ls 6 [(0, .ref h0), (1, .int (jI x1)), (2, .int (jI x2)), (3, .int (jI x3)), (4, .int (jI x4)), (5, .int (jI x5))] → W p l e R s m args below meth c H locs 0 0 Qf (F0 m 6 ls [])) ?_ H locs ls rx1 rx2 rx3 rx4 rx5 hw hl
  clear h hl hw rx1 rx2 rx3 rx4 rx5
  intro x1 x2 x3 x4 x5 u h H locs ls rx1 rx2 rx3 rx4 rx5 hw hl
  have hR6 : ∀ (x1 : Int) (x2 : Int) (x3 : Int) (x4 : Int) (x5 : Int) (u : iST) (H : Heap) (locs : List Loc) (ls : Array Slot), inR x1 → inR x2 → inR x3 → inR x4 → inR x5 → kW D ca A h0 ad H0 H locs u → lv_has ls 6 [(0, .ref h0), (1, .int (jI x1)), (2, .int (jI x2)), (3, .int (jI x3)), (4, .int (jI x4)), (5, .int (jI x5))] → (fun (x1 : Int) (x2 : Int) (x3 : Int) (x4 : Int) (x5 : Int) u => ∀ (H : Heap) (locs : List Loc) (ls : Array Slot), inR x1 → inR x2 → inR x3 → inR x4 → inR x5 → kW D ca A h0 ad H0 H locs u → lv_has ls 6 [(0, .ref h0), (1, .int (jI x1)), (2, .int (jI x2)), (3, .int (jI x3)), (4, .int (jI x4)), (5, .int (jI x5))] → W p l e R s m args below meth c H locs 0 0 Qf (F0 m 6 ls [])) x1 x2 x3 x4 x5 u → W p l e R s m args below meth c H locs 0 0 Qf (F0 m 6 ls []) := fun x1 x2 x3 x4 x5 u H locs ls rx1 rx2 rx3 rx4 rx5 hw hl h => h H locs ls rx1 rx2 rx3 rx4 rx5 hw hl
  have hx := X.1.1
  have hb := X.1.2.1
  unfold w_spelled_6b at h
  refine lv_iload hx hb dX12_spelled_6 (lv_at hl 5 rfl) ?_
  refine lv_iload_n hx hb dX12_spelled_8 rfl (lv_at hl 2 rfl) ?_
  refine k_icmp_ge hx hb rx5 rx2 dX12_spelled_9 (tgt := 50) rfl h (fun h => ?_) (fun h => ?_)
  · refine lv_iload hx hb dX12_spelled_50 (lv_at hl 4 rfl) ?_
    refine lv_sipush hx hb dX12_spelled_52 (v := jI 8191) rfl ?_
    refine k_iand hx hb dX12_spelled_55 h (fun v1 rv1 h => ?_)
    exact hret _ _ _ _ _ _ rv1 h hw dX12_spelled_56
  · refine lv_sipush hx hb dX12_spelled_12 (v := jI 131) rfl ?_
    refine lv_iload hx hb dX12_spelled_15 (lv_at hl 4 rfl) ?_
    refine k_wmul hx hb dX12_spelled_17 h (fun v2 rv2 h => ?_)
    refine lv_iload_n hx hb dX12_spelled_18 rfl (lv_at hl 3 rfl) ?_
    refine k_if_eq hx hb rx3 dX12_spelled_19 (tgt := 32) rfl h (fun h => ?_) (fun h => ?_)
    · refine lv_aload_n hx hb dX12_spelled_32 rfl (lv_at hl 0 rfl) ?_
      refine gA 9 35 (by decide) L_9 (fun _ _ => mF_9) rfl X hw dX12_spelled_33 ?_
      refine lv_iload_n hx hb dX12_spelled_36 rfl (lv_at hl 1 rfl) ?_
      refine lv_iload hx hb dX12_spelled_37 (lv_at hl 5 rfl) ?_
      refine k_wadd hx hb dX12_spelled_39 h (fun v3 rv3 h => ?_)
      refine aL 9 8 7 252000 (fun _ _ _ _ => mG_9) (fun _ => rfl) X hw rv3 dX12_spelled_40 rfl h (fun v4 rv4 h => ?_)
      refine k_wadd hx hb dX12_spelled_41 h (fun v5 rv5 h => ?_)
      refine lv_istore hx hb dX12_spelled_42 hl (by decide) rfl (fun ls hl => ?_)
      have hl : lv_has ls 6 [(4, .int (jI v5)), (0, .ref (h0)), (1, .int (jI x1)), (2, .int (jI x2)), (3, .int (jI x3)), (5, .int (jI x5))] := hl
      refine k_iinc (k := 5) hx hb dX12_spelled_44 hl rfl (by decide) rfl h (fun ls r6 h hl => ?_)
      have hl : lv_has ls 6 [(5, .int (jI (x5 + 1))), (4, .int (jI v5)), (0, .ref (h0)), (1, .int (jI x1)), (2, .int (jI x2)), (3, .int (jI x3))] := hl
      refine lv_goto hx hb dX12_spelled_47 (tgt := 6) rfl ?_
      exact hR6 _ _ _ _ _ _ H locs ls rx1 rx2 rx3 rv5 r6 hw (lv_sub hl [2, 3, 4, 5, 1, 0] rfl) h
    · refine lv_aload_n hx hb dX12_spelled_22 rfl (lv_at hl 0 rfl) ?_
      refine gA 17 50 (by decide) L_17 (fun _ _ => mF_17) rfl X hw dX12_spelled_23 ?_
      refine lv_iload hx hb dX12_spelled_26 (lv_at hl 5 rfl) ?_
      refine aL 17 13 12 12 (fun _ _ _ _ => mG_17) (fun _ => rfl) X hw rx5 dX12_spelled_28 rfl h (fun v7 rv7 h => ?_)
      refine lv_goto hx hb dX12_spelled_29 (tgt := 41) rfl ?_
      refine k_wadd hx hb dX12_spelled_41 h (fun v8 rv8 h => ?_)
      refine lv_istore hx hb dX12_spelled_42 hl (by decide) rfl (fun ls hl => ?_)
      have hl : lv_has ls 6 [(4, .int (jI v8)), (0, .ref (h0)), (1, .int (jI x1)), (2, .int (jI x2)), (3, .int (jI x3)), (5, .int (jI x5))] := hl
      refine k_iinc (k := 5) hx hb dX12_spelled_44 hl rfl (by decide) rfl h (fun ls r9 h hl => ?_)
      have hl : lv_has ls 6 [(5, .int (jI (x5 + 1))), (4, .int (jI v8)), (0, .ref (h0)), (1, .int (jI x1)), (2, .int (jI x2)), (3, .int (jI x3))] := hl
      refine lv_goto hx hb dX12_spelled_47 (tgt := 6) rfl ?_
      exact hR6 _ _ _ _ _ _ H locs ls rx1 rx2 rx3 rv8 r9 hw (lv_sub hl [2, 3, 4, 5, 1, 0] rfl) h

def w_spelled (a0 : Int) (a1 : Int) (a2 : Int) (Q : Int → iST → Prop) (u : iST) : Prop :=
  w_spelled_6 Q a0 a1 a2 5 0 u
set_option maxRecDepth 20000 in
set_option maxHeartbeats 4000000 in
theorem b_spelled_s (X : kX p m c cX12_spelled 6 s args D ca) (hRf : 0 ≤ R.frames) (hRl : 0 ≤ R.locals) {Q : Int → iST → Prop} (hret : ∀ (v : Int) (u : iST) (H : Heap) (locs : List Loc) (ls : Array Slot) (pc : Nat), inR v → Q v u → kW D ca A h0 ad H0 H locs u → decode cX12_spelled pc = .ok (.ireturn, 1) → W p l e R s m args below meth c H locs 0 0 Qf (F0 m pc ls [.int (jI v)])) {a0 a1 a2 : Int} (ra0 : inR a0) (ra1 : inR a1) (ra2 : inR a2) (hw : kW D ca A h0 ad H0 H locs u) (hl : lv_has ls 6 [(0, .ref h0), (1, .int (jI a0)), (2, .int (jI a1)), (3, .int (jI a2))]) (h : w_spelled a0 a1 a2 Q u) : W p l e R s m args below meth c H locs 0 0 Qf (F0 m 0 ls []) := by
  have hx := X.1.1
  have hb := X.1.2.1
  unfold w_spelled at h
  refine lv_iconst hx hb dX12_spelled_0 (v := jI 5) rfl ?_
  refine lv_istore hx hb dX12_spelled_1 hl (by decide) rfl (fun ls hl => ?_)
  have hl : lv_has ls 6 [(4, .int (jI 5)), (0, .ref (h0)), (1, .int (jI a0)), (2, .int (jI a1)), (3, .int (jI a2))] := hl
  refine lv_iconst hx hb dX12_spelled_3 (v := jI 0) rfl ?_
  refine lv_istore hx hb dX12_spelled_4 hl (by decide) rfl (fun ls hl => ?_)
  have hl : lv_has ls 6 [(5, .int (jI 0)), (4, .int (jI 5)), (0, .ref (h0)), (1, .int (jI a0)), (2, .int (jI a1)), (3, .int (jI a2))] := hl
  exact b_spelled_6 X hRf hRl hret ra0 ra1 ra2 (by decide) (by decide) hw (lv_sub hl [2, 3, 4, 5, 1, 0] rfl) h

end
theorem c_spelled {l : Launch} {a0 : Int} {a1 : Int} {a2 : Int} (ra0 : inR a0) (ra1 : inR a1) (ra2 : inR a2) {Q : Int → iST → Prop} {u : iST} (h : w_spelled a0 a1 a2 Q u) : kMI l yX12_spelled (.code yX12_spelled cX12_spelled 6 (some .int) :: wsM) { frames := 0, cells := 0, slots := 0, locals := 0 } [.int (jI a0), .int (jI a1), .int (jI a2)] Q u := kMI_of rfl (fun _ => Nat.le_of_ble_eq_true rfl) (fun X hRf hRl hret hw hl => b_spelled_s X hRf hRl hret ra0 ra1 ra2 hw hl h)

/-! isWord -/
theorem dX12_isWord_0 : decode cX12_isWord 0 = .ok (.aload_n 0, 1) := by decide +kernel
theorem dX12_isWord_1 : decode cX12_isWord 1 = .ok (.getfield 38, 3) := by decide +kernel
theorem dX12_isWord_4 : decode cX12_isWord 4 = .ok (.iload_n 1, 1) := by decide +kernel
theorem dX12_isWord_5 : decode cX12_isWord 5 = .ok (.iaload, 1) := by decide +kernel
theorem dX12_isWord_6 : decode cX12_isWord 6 = .ok (.aload_n 0, 1) := by decide +kernel
theorem dX12_isWord_7 : decode cX12_isWord 7 = .ok (.getfield 309, 3) := by decide +kernel
theorem dX12_isWord_10 : decode cX12_isWord 10 = .ok (.if_icmp .ne 7, 3) := by decide +kernel
theorem dX12_isWord_13 : decode cX12_isWord 13 = .ok (.iconst 1, 1) := by decide +kernel
theorem dX12_isWord_14 : decode cX12_isWord 14 = .ok (.goto 4, 3) := by decide +kernel
theorem dX12_isWord_17 : decode cX12_isWord 17 = .ok (.iconst 0, 1) := by decide +kernel
theorem dX12_isWord_18 : decode cX12_isWord 18 = .ok (.istore_n 2, 1) := by decide +kernel
theorem dX12_isWord_19 : decode cX12_isWord 19 = .ok (.iconst 0, 1) := by decide +kernel
theorem dX12_isWord_20 : decode cX12_isWord 20 = .ok (.istore_n 3, 1) := by decide +kernel
theorem dX12_isWord_21 : decode cX12_isWord 21 = .ok (.iload_n 3, 1) := by decide +kernel
theorem dX12_isWord_22 : decode cX12_isWord 22 = .ok (.aload_n 0, 1) := by decide +kernel
theorem dX12_isWord_23 : decode cX12_isWord 23 = .ok (.getfield 309, 3) := by decide +kernel
theorem dX12_isWord_26 : decode cX12_isWord 26 = .ok (.if_icmp .ge 39, 3) := by decide +kernel
theorem dX12_isWord_29 : decode cX12_isWord 29 = .ok (.iload_n 2, 1) := by decide +kernel
theorem dX12_isWord_30 : decode cX12_isWord 30 = .ok (.ifCond .eq 35, 3) := by decide +kernel
theorem dX12_isWord_33 : decode cX12_isWord 33 = .ok (.aload_n 0, 1) := by decide +kernel
theorem dX12_isWord_34 : decode cX12_isWord 34 = .ok (.getfield 35, 3) := by decide +kernel
theorem dX12_isWord_37 : decode cX12_isWord 37 = .ok (.bipush 12, 2) := by decide +kernel
theorem dX12_isWord_39 : decode cX12_isWord 39 = .ok (.iload_n 1, 1) := by decide +kernel
theorem dX12_isWord_40 : decode cX12_isWord 40 = .ok (.imul, 1) := by decide +kernel
theorem dX12_isWord_41 : decode cX12_isWord 41 = .ok (.iload_n 3, 1) := by decide +kernel
theorem dX12_isWord_42 : decode cX12_isWord 42 = .ok (.iadd, 1) := by decide +kernel
theorem dX12_isWord_43 : decode cX12_isWord 43 = .ok (.iaload, 1) := by decide +kernel
theorem dX12_isWord_44 : decode cX12_isWord 44 = .ok (.aload_n 0, 1) := by decide +kernel
theorem dX12_isWord_45 : decode cX12_isWord 45 = .ok (.getfield 50, 3) := by decide +kernel
theorem dX12_isWord_48 : decode cX12_isWord 48 = .ok (.iload_n 3, 1) := by decide +kernel
theorem dX12_isWord_49 : decode cX12_isWord 49 = .ok (.iaload, 1) := by decide +kernel
theorem dX12_isWord_50 : decode cX12_isWord 50 = .ok (.if_icmp .ne 7, 3) := by decide +kernel
theorem dX12_isWord_53 : decode cX12_isWord 53 = .ok (.iconst 1, 1) := by decide +kernel
theorem dX12_isWord_54 : decode cX12_isWord 54 = .ok (.goto 4, 3) := by decide +kernel
theorem dX12_isWord_57 : decode cX12_isWord 57 = .ok (.iconst 0, 1) := by decide +kernel
theorem dX12_isWord_58 : decode cX12_isWord 58 = .ok (.istore_n 2, 1) := by decide +kernel
theorem dX12_isWord_59 : decode cX12_isWord 59 = .ok (.iinc 3 1, 3) := by decide +kernel
theorem dX12_isWord_62 : decode cX12_isWord 62 = .ok (.goto (-41), 3) := by decide +kernel
theorem dX12_isWord_65 : decode cX12_isWord 65 = .ok (.iload_n 2, 1) := by decide +kernel
theorem dX12_isWord_66 : decode cX12_isWord 66 = .ok (.ireturn, 1) := by decide +kernel

section
variable {p : Program} {l : Launch} {e : Env} {R : Room} {s : State} {m : MethodId} {args : Array Value} {below : List Frame} {meth : Method} {c : Code} {H : Heap} {locs : List Loc} {Qf : State → Prop}
variable {ls : Array Slot} {D : va_G} {ca : Nat → ClassId} {A : Nat → Prop} {h0 : Nat} {ad : Nat → Nat} {H0 : Heap} {u : iST}
def w_isWord_21b (R21 : Int → Int → Int → iST → Prop) (Q : Int → iST → Prop) (x1 : Int) (x2 : Int) (x3 : Int) (u : iST) : Prop :=
  rd (u.1 18) (fun v3 => 
  br (v3 ≤ x3) (
    zt x2 (Q x2 u)) (
    br (x2 = 0) (
      zt x2 (Q x2 u)) (
      ov (12 * x1) (
      ov ((12 * x1) + x3) (
      bd ((12 * x1) + x3) 252000 (rd (u.2.1 9 ((12 * x1) + x3)) (fun v6 => 
      bd x3 12 (rd (u.2.1 17 x3) (fun v7 => 
      br (v6 ≠ v7) (
        ov (x3 + 1) (
        R21 x1 0 (x3 + 1) u)) (
        ov (x3 + 1) (
        R21 x1 1 (x3 + 1) u)))))))))))
def w_isWord_21 (Q : Int → iST → Prop) (x1 : Int) (x2 : Int) (x3 : Int) (u : iST) : Prop := ∀ R21 : Int → Int → Int → iST → Prop, (∀ (x1 : Int) (x2 : Int) (x3 : Int) (u : iST), w_isWord_21b R21 Q x1 x2 x3 u → R21 x1 x2 x3 u) → R21 x1 x2 x3 u
set_option maxRecDepth 20000 in
set_option maxHeartbeats 4000000 in
theorem b_isWord_21 (X : kX p m c cX12_isWord 4 s args D ca) (hRf : 0 ≤ R.frames) (hRl : 0 ≤ R.locals) {Q : Int → iST → Prop} (hret : ∀ (v : Int) (u : iST) (H : Heap) (locs : List Loc) (ls : Array Slot) (pc : Nat), bz v → Q v u → kW D ca A h0 ad H0 H locs u → decode cX12_isWord pc = .ok (.ireturn, 1) → W p l e R s m args below meth c H locs 0 0 Qf (F0 m pc ls [.int (jI v)])) {x1 x2 x3 : Int} (rx1 : inR x1) (rx2 : inR x2) (rx3 : inR x3) (hw : kW D ca A h0 ad H0 H locs u) (hl : lv_has ls 4 [(0, .ref h0), (1, .int (jI x1)), (2, .int (jI x2)), (3, .int (jI x3))]) (h : w_isWord_21 Q x1 x2 x3 u) : W p l e R s m args below meth c H locs 0 0 Qf (F0 m 21 ls []) := by
  refine h (fun x1 x2 x3 u => ∀ (H : Heap) (locs : List Loc) (ls : Array Slot), inR x1 → inR x2 → inR x3 → kW D ca A h0 ad H0 H locs u → lv_has ls 4 [(0, .ref h0), (1, .int (jI x1)), (2, .int (jI x2)), (3, .int (jI x3))] → W p l e R s m args below meth c H locs 0 0 Qf (F0 m 21 ls [])) ?_ H locs ls rx1 rx2 rx3 hw hl
  clear h hl hw rx1 rx2 rx3
  intro x1 x2 x3 u h H locs ls rx1 rx2 rx3 hw hl
  have hR21 : ∀ (x1 : Int) (x2 : Int) (x3 : Int) (u : iST) (H : Heap) (locs : List Loc) (ls : Array Slot), inR x1 → inR x2 → inR x3 → kW D ca A h0 ad H0 H locs u → lv_has ls 4 [(0, .ref h0), (1, .int (jI x1)), (2, .int (jI x2)), (3, .int (jI x3))] → (fun (x1 : Int) (x2 : Int) (x3 : Int) u => ∀ (H : Heap) (locs : List Loc) (ls : Array Slot), inR x1 → inR x2 → inR x3 → kW D ca A h0 ad H0 H locs u → lv_has ls 4 [(0, .ref h0), (1, .int (jI x1)), (2, .int (jI x2)), (3, .int (jI x3))] → W p l e R s m args below meth c H locs 0 0 Qf (F0 m 21 ls [])) x1 x2 x3 u → W p l e R s m args below meth c H locs 0 0 Qf (F0 m 21 ls []) := fun x1 x2 x3 u H locs ls rx1 rx2 rx3 hw hl h => h H locs ls rx1 rx2 rx3 hw hl
  have hx := X.1.1
  have hb := X.1.2.1
  unfold w_isWord_21b at h
  refine lv_iload_n hx hb dX12_isWord_21 rfl (lv_at hl 3 rfl) ?_
  refine lv_aload_n hx hb dX12_isWord_22 rfl (lv_at hl 0 rfl) ?_
  refine gS 18 309 (by decide) L_18 (fun _ _ => mF_18) rfl X hw dX12_isWord_23 h (fun v3 rv3 h => ?_)
  refine k_icmp_ge hx hb rx3 rv3 dX12_isWord_26 (tgt := 65) rfl h (fun h => ?_) (fun h => ?_)
  · refine lv_iload_n hx hb dX12_isWord_65 rfl (lv_at hl 2 rfl) ?_
    exact hret _ _ _ _ _ _ h.1 h.2 hw dX12_isWord_66
  · refine lv_iload_n hx hb dX12_isWord_29 rfl (lv_at hl 2 rfl) ?_
    refine k_if_eq hx hb rx2 dX12_isWord_30 (tgt := 65) rfl h (fun h => ?_) (fun h => ?_)
    · refine lv_iload_n hx hb dX12_isWord_65 rfl (lv_at hl 2 rfl) ?_
      exact hret _ _ _ _ _ _ h.1 h.2 hw dX12_isWord_66
    · refine lv_aload_n hx hb dX12_isWord_33 rfl (lv_at hl 0 rfl) ?_
      refine gA 9 35 (by decide) L_9 (fun _ _ => mF_9) rfl X hw dX12_isWord_34 ?_
      refine lv_bipush hx hb dX12_isWord_37 (v := jI 12) rfl ?_
      refine lv_iload_n hx hb dX12_isWord_39 rfl (lv_at hl 1 rfl) ?_
      refine k_imul hx hb dX12_isWord_40 h (fun r4 h => ?_)
      refine lv_iload_n hx hb dX12_isWord_41 rfl (lv_at hl 3 rfl) ?_
      refine k_iadd hx hb dX12_isWord_42 h (fun r5 h => ?_)
      refine aL 9 8 7 252000 (fun _ _ _ _ => mG_9) (fun _ => rfl) X hw r5 dX12_isWord_43 rfl h (fun v6 rv6 h => ?_)
      refine lv_aload_n hx hb dX12_isWord_44 rfl (lv_at hl 0 rfl) ?_
      refine gA 17 50 (by decide) L_17 (fun _ _ => mF_17) rfl X hw dX12_isWord_45 ?_
      refine lv_iload_n hx hb dX12_isWord_48 rfl (lv_at hl 3 rfl) ?_
      refine aL 17 13 12 12 (fun _ _ _ _ => mG_17) (fun _ => rfl) X hw rx3 dX12_isWord_49 rfl h (fun v7 rv7 h => ?_)
      refine k_icmp_ne hx hb rv6 rv7 dX12_isWord_50 (tgt := 57) rfl h (fun h => ?_) (fun h => ?_)
      · refine lv_iconst hx hb dX12_isWord_57 (v := jI 0) rfl ?_
        refine lv_istore_n hx hb dX12_isWord_58 rfl hl (by decide) rfl (fun ls hl => ?_)
        have hl : lv_has ls 4 [(2, .int (jI 0)), (0, .ref (h0)), (1, .int (jI x1)), (3, .int (jI x3))] := hl
        refine k_iinc (k := 3) hx hb dX12_isWord_59 hl rfl (by decide) rfl h (fun ls r8 h hl => ?_)
        have hl : lv_has ls 4 [(3, .int (jI (x3 + 1))), (2, .int (jI 0)), (0, .ref (h0)), (1, .int (jI x1))] := hl
        refine lv_goto hx hb dX12_isWord_62 (tgt := 21) rfl ?_
        exact hR21 _ _ _ _ H locs ls rx1 (by decide) r8 hw (lv_sub hl [2, 3, 1, 0] rfl) h
      · refine lv_iconst hx hb dX12_isWord_53 (v := jI 1) rfl ?_
        refine lv_goto hx hb dX12_isWord_54 (tgt := 58) rfl ?_
        refine lv_istore_n hx hb dX12_isWord_58 rfl hl (by decide) rfl (fun ls hl => ?_)
        have hl : lv_has ls 4 [(2, .int (jI 1)), (0, .ref (h0)), (1, .int (jI x1)), (3, .int (jI x3))] := hl
        refine k_iinc (k := 3) hx hb dX12_isWord_59 hl rfl (by decide) rfl h (fun ls r9 h hl => ?_)
        have hl : lv_has ls 4 [(3, .int (jI (x3 + 1))), (2, .int (jI 1)), (0, .ref (h0)), (1, .int (jI x1))] := hl
        refine lv_goto hx hb dX12_isWord_62 (tgt := 21) rfl ?_
        exact hR21 _ _ _ _ H locs ls rx1 (by decide) r9 hw (lv_sub hl [2, 3, 1, 0] rfl) h

def w_isWord_18 (Q : Int → iST → Prop) (x1 : Int) (y0 : Int) (u : iST) : Prop :=
  w_isWord_21 Q x1 y0 0 u
set_option maxRecDepth 20000 in
set_option maxHeartbeats 4000000 in
theorem b_isWord_18 (X : kX p m c cX12_isWord 4 s args D ca) (hRf : 0 ≤ R.frames) (hRl : 0 ≤ R.locals) {Q : Int → iST → Prop} (hret : ∀ (v : Int) (u : iST) (H : Heap) (locs : List Loc) (ls : Array Slot) (pc : Nat), bz v → Q v u → kW D ca A h0 ad H0 H locs u → decode cX12_isWord pc = .ok (.ireturn, 1) → W p l e R s m args below meth c H locs 0 0 Qf (F0 m pc ls [.int (jI v)])) {x1 y0 : Int} (rx1 : inR x1) (ry0 : inR y0) (hw : kW D ca A h0 ad H0 H locs u) (hl : lv_has ls 4 [(0, .ref h0), (1, .int (jI x1))]) (h : w_isWord_18 Q x1 y0 u) : W p l e R s m args below meth c H locs 0 0 Qf (F0 m 18 ls [.int (jI y0)]) := by
  have hx := X.1.1
  have hb := X.1.2.1
  unfold w_isWord_18 at h
  refine lv_istore_n hx hb dX12_isWord_18 rfl hl (by decide) rfl (fun ls hl => ?_)
  have hl : lv_has ls 4 [(2, .int (jI y0)), (0, .ref (h0)), (1, .int (jI x1))] := hl
  refine lv_iconst hx hb dX12_isWord_19 (v := jI 0) rfl ?_
  refine lv_istore_n hx hb dX12_isWord_20 rfl hl (by decide) rfl (fun ls hl => ?_)
  have hl : lv_has ls 4 [(3, .int (jI 0)), (2, .int (jI y0)), (0, .ref (h0)), (1, .int (jI x1))] := hl
  exact b_isWord_21 X hRf hRl hret rx1 ry0 (by decide) hw (lv_sub hl [2, 3, 1, 0] rfl) h

def w_isWord (a0 : Int) (Q : Int → iST → Prop) (u : iST) : Prop :=
  bd a0 21000 (rd (u.2.1 10 a0) (fun v1 => 
  rd (u.1 18) (fun v2 => 
  br (v1 ≠ v2) (
    w_isWord_18 Q a0 0 u) (
    w_isWord_18 Q a0 1 u))))
set_option maxRecDepth 20000 in
set_option maxHeartbeats 4000000 in
theorem b_isWord_s (X : kX p m c cX12_isWord 4 s args D ca) (hRf : 0 ≤ R.frames) (hRl : 0 ≤ R.locals) {Q : Int → iST → Prop} (hret : ∀ (v : Int) (u : iST) (H : Heap) (locs : List Loc) (ls : Array Slot) (pc : Nat), bz v → Q v u → kW D ca A h0 ad H0 H locs u → decode cX12_isWord pc = .ok (.ireturn, 1) → W p l e R s m args below meth c H locs 0 0 Qf (F0 m pc ls [.int (jI v)])) {a0 : Int} (ra0 : inR a0) (hw : kW D ca A h0 ad H0 H locs u) (hl : lv_has ls 4 [(0, .ref h0), (1, .int (jI a0))]) (h : w_isWord a0 Q u) : W p l e R s m args below meth c H locs 0 0 Qf (F0 m 0 ls []) := by
  have hx := X.1.1
  have hb := X.1.2.1
  unfold w_isWord at h
  refine lv_aload_n hx hb dX12_isWord_0 rfl (lv_at hl 0 rfl) ?_
  refine gA 10 38 (by decide) L_10 (fun _ _ => mF_10) rfl X hw dX12_isWord_1 ?_
  refine lv_iload_n hx hb dX12_isWord_4 rfl (lv_at hl 1 rfl) ?_
  refine aL 10 9 8 21000 (fun _ _ _ _ => mG_10) (fun _ => rfl) X hw ra0 dX12_isWord_5 rfl h (fun v1 rv1 h => ?_)
  refine lv_aload_n hx hb dX12_isWord_6 rfl (lv_at hl 0 rfl) ?_
  refine gS 18 309 (by decide) L_18 (fun _ _ => mF_18) rfl X hw dX12_isWord_7 h (fun v2 rv2 h => ?_)
  refine k_icmp_ne hx hb rv1 rv2 dX12_isWord_10 (tgt := 17) rfl h (fun h => ?_) (fun h => ?_)
  · refine lv_iconst hx hb dX12_isWord_17 (v := jI 0) rfl ?_
    exact b_isWord_18 X hRf hRl hret ra0 (by decide) hw hl h
  · refine lv_iconst hx hb dX12_isWord_13 (v := jI 1) rfl ?_
    refine lv_goto hx hb dX12_isWord_14 (tgt := 18) rfl ?_
    exact b_isWord_18 X hRf hRl hret ra0 (by decide) hw hl h

end
theorem c_isWord {l : Launch} {a0 : Int} (ra0 : inR a0) {Q : Int → iST → Prop} {u : iST} (h : w_isWord a0 Q u) : kMI l yX12_isWord (.code yX12_isWord cX12_isWord 4 (some .boolean) :: wsM) { frames := 0, cells := 0, slots := 0, locals := 0 } [.int (jI a0)] Q u := kMZ_of rfl (fun _ => Nat.le_of_ble_eq_true rfl) (fun X hRf hRl hret hw hl => b_isWord_s X hRf hRl hret ra0 hw hl h)

/-! added -/
theorem dX12_added_0 : decode cX12_added 0 = .ok (.aload_n 0, 1) := by decide +kernel
theorem dX12_added_1 : decode cX12_added 1 = .ok (.getfield 8, 3) := by decide +kernel
theorem dX12_added_4 : decode cX12_added 4 = .ok (.aload_n 0, 1) := by decide +kernel
theorem dX12_added_5 : decode cX12_added 5 = .ok (.getfield 332, 3) := by decide +kernel
theorem dX12_added_8 : decode cX12_added 8 = .ok (.iload_n 1, 1) := by decide +kernel
theorem dX12_added_9 : decode cX12_added 9 = .ok (.iastore, 1) := by decide +kernel
theorem dX12_added_10 : decode cX12_added 10 = .ok (.aload_n 0, 1) := by decide +kernel
theorem dX12_added_11 : decode cX12_added 11 = .ok (.getfield 14, 3) := by decide +kernel
theorem dX12_added_14 : decode cX12_added 14 = .ok (.aload_n 0, 1) := by decide +kernel
theorem dX12_added_15 : decode cX12_added 15 = .ok (.getfield 332, 3) := by decide +kernel
theorem dX12_added_18 : decode cX12_added 18 = .ok (.iload_n 2, 1) := by decide +kernel
theorem dX12_added_19 : decode cX12_added 19 = .ok (.iastore, 1) := by decide +kernel
theorem dX12_added_20 : decode cX12_added 20 = .ok (.aload_n 0, 1) := by decide +kernel
theorem dX12_added_21 : decode cX12_added 21 = .ok (.getfield 17, 3) := by decide +kernel
theorem dX12_added_24 : decode cX12_added 24 = .ok (.aload_n 0, 1) := by decide +kernel
theorem dX12_added_25 : decode cX12_added 25 = .ok (.getfield 332, 3) := by decide +kernel
theorem dX12_added_28 : decode cX12_added 28 = .ok (.aload_n 0, 1) := by decide +kernel
theorem dX12_added_29 : decode cX12_added 29 = .ok (.getfield 31, 3) := by decide +kernel
theorem dX12_added_32 : decode cX12_added 32 = .ok (.iload_n 3, 1) := by decide +kernel
theorem dX12_added_33 : decode cX12_added 33 = .ok (.iaload, 1) := by decide +kernel
theorem dX12_added_34 : decode cX12_added 34 = .ok (.iastore, 1) := by decide +kernel
theorem dX12_added_35 : decode cX12_added 35 = .ok (.aload_n 0, 1) := by decide +kernel
theorem dX12_added_36 : decode cX12_added 36 = .ok (.getfield 20, 3) := by decide +kernel
theorem dX12_added_39 : decode cX12_added 39 = .ok (.aload_n 0, 1) := by decide +kernel
theorem dX12_added_40 : decode cX12_added 40 = .ok (.getfield 332, 3) := by decide +kernel
theorem dX12_added_43 : decode cX12_added 43 = .ok (.iconst 0, 1) := by decide +kernel
theorem dX12_added_44 : decode cX12_added 44 = .ok (.iastore, 1) := by decide +kernel
theorem dX12_added_45 : decode cX12_added 45 = .ok (.aload_n 0, 1) := by decide +kernel
theorem dX12_added_46 : decode cX12_added 46 = .ok (.getfield 23, 3) := by decide +kernel
theorem dX12_added_49 : decode cX12_added 49 = .ok (.aload_n 0, 1) := by decide +kernel
theorem dX12_added_50 : decode cX12_added 50 = .ok (.getfield 332, 3) := by decide +kernel
theorem dX12_added_53 : decode cX12_added 53 = .ok (.iload_n 1, 1) := by decide +kernel
theorem dX12_added_54 : decode cX12_added 54 = .ok (.ifCond .ge 7, 3) := by decide +kernel
theorem dX12_added_57 : decode cX12_added 57 = .ok (.iconst 0, 1) := by decide +kernel
theorem dX12_added_58 : decode cX12_added 58 = .ok (.goto 35, 3) := by decide +kernel
theorem dX12_added_61 : decode cX12_added 61 = .ok (.iconst 1, 1) := by decide +kernel
theorem dX12_added_62 : decode cX12_added 62 = .ok (.aload_n 0, 1) := by decide +kernel
theorem dX12_added_63 : decode cX12_added 63 = .ok (.getfield 23, 3) := by decide +kernel
theorem dX12_added_66 : decode cX12_added 66 = .ok (.iload_n 1, 1) := by decide +kernel
theorem dX12_added_67 : decode cX12_added 67 = .ok (.iaload, 1) := by decide +kernel
theorem dX12_added_68 : decode cX12_added 68 = .ok (.aload_n 0, 1) := by decide +kernel
theorem dX12_added_69 : decode cX12_added 69 = .ok (.getfield 23, 3) := by decide +kernel
theorem dX12_added_72 : decode cX12_added 72 = .ok (.iload_n 2, 1) := by decide +kernel
theorem dX12_added_73 : decode cX12_added 73 = .ok (.iaload, 1) := by decide +kernel
theorem dX12_added_74 : decode cX12_added 74 = .ok (.if_icmp .le 12, 3) := by decide +kernel
theorem dX12_added_77 : decode cX12_added 77 = .ok (.aload_n 0, 1) := by decide +kernel
theorem dX12_added_78 : decode cX12_added 78 = .ok (.getfield 23, 3) := by decide +kernel
theorem dX12_added_81 : decode cX12_added 81 = .ok (.iload_n 1, 1) := by decide +kernel
theorem dX12_added_82 : decode cX12_added 82 = .ok (.iaload, 1) := by decide +kernel
theorem dX12_added_83 : decode cX12_added 83 = .ok (.goto 9, 3) := by decide +kernel
theorem dX12_added_86 : decode cX12_added 86 = .ok (.aload_n 0, 1) := by decide +kernel
theorem dX12_added_87 : decode cX12_added 87 = .ok (.getfield 23, 3) := by decide +kernel
theorem dX12_added_90 : decode cX12_added 90 = .ok (.iload_n 2, 1) := by decide +kernel
theorem dX12_added_91 : decode cX12_added 91 = .ok (.iaload, 1) := by decide +kernel
theorem dX12_added_92 : decode cX12_added 92 = .ok (.iadd, 1) := by decide +kernel
theorem dX12_added_93 : decode cX12_added 93 = .ok (.iastore, 1) := by decide +kernel
theorem dX12_added_94 : decode cX12_added 94 = .ok (.aload_n 0, 1) := by decide +kernel
theorem dX12_added_95 : decode cX12_added 95 = .ok (.getfield 31, 3) := by decide +kernel
theorem dX12_added_98 : decode cX12_added 98 = .ok (.iload_n 3, 1) := by decide +kernel
theorem dX12_added_99 : decode cX12_added 99 = .ok (.aload_n 0, 1) := by decide +kernel
theorem dX12_added_100 : decode cX12_added 100 = .ok (.getfield 332, 3) := by decide +kernel
theorem dX12_added_103 : decode cX12_added 103 = .ok (.iastore, 1) := by decide +kernel
theorem dX12_added_104 : decode cX12_added 104 = .ok (.aload_n 0, 1) := by decide +kernel
theorem dX12_added_105 : decode cX12_added 105 = .ok (.dup, 1) := by decide +kernel
theorem dX12_added_106 : decode cX12_added 106 = .ok (.getfield 332, 3) := by decide +kernel
theorem dX12_added_109 : decode cX12_added 109 = .ok (.iconst 1, 1) := by decide +kernel
theorem dX12_added_110 : decode cX12_added 110 = .ok (.iadd, 1) := by decide +kernel
theorem dX12_added_111 : decode cX12_added 111 = .ok (.putfield 332, 3) := by decide +kernel
theorem dX12_added_114 : decode cX12_added 114 = .ok (.aload_n 0, 1) := by decide +kernel
theorem dX12_added_115 : decode cX12_added 115 = .ok (.getfield 332, 3) := by decide +kernel
theorem dX12_added_118 : decode cX12_added 118 = .ok (.iconst 1, 1) := by decide +kernel
theorem dX12_added_119 : decode cX12_added 119 = .ok (.isub, 1) := by decide +kernel
theorem dX12_added_120 : decode cX12_added 120 = .ok (.ireturn, 1) := by decide +kernel

section
variable {p : Program} {l : Launch} {e : Env} {R : Room} {s : State} {m : MethodId} {args : Array Value} {below : List Frame} {meth : Method} {c : Code} {H : Heap} {locs : List Loc} {Qf : State → Prop}
variable {ls : Array Slot} {D : va_G} {ca : Nat → ClassId} {A : Nat → Prop} {h0 : Nat} {ad : Nat → Nat} {H0 : Heap} {u : iST}
def w_added_93 (Q : Int → iST → Prop) (x3 : Int) (y1 : Int) (y2 : Int) (u : iST) : Prop :=
  bd y1 452000 (sw (iA u 4 y1 y2) (fun u => 
  rd (u.1 8) (fun v11 => 
  bd x3 8192 (sw (iA u 7 x3 v11) (fun u => 
  rd (u.1 8) (fun v12 => 
  ov (v12 + 1) (
  sw (iI u 8 (v12 + 1)) (fun u => 
  rd (u.1 8) (fun v14 => 
  ov (v14 - 1) (
  Q (v14 - 1) u))))))))))
set_option maxRecDepth 20000 in
set_option maxHeartbeats 4000000 in
theorem b_added_93 (X : kX p m c cX12_added 4 s args D ca) (hRf : 0 ≤ R.frames) (hRl : 0 ≤ R.locals) {Q : Int → iST → Prop} (hret : ∀ (v : Int) (u : iST) (H : Heap) (locs : List Loc) (ls : Array Slot) (pc : Nat), inR v → Q v u → kW D ca A h0 ad H0 H locs u → decode cX12_added pc = .ok (.ireturn, 1) → W p l e R s m args below meth c H locs 0 0 Qf (F0 m pc ls [.int (jI v)])) {x3 y1 y2 : Int} (rx3 : inR x3) (ry1 : inR y1) (ry2 : inR y2) (hw : kW D ca A h0 ad H0 H locs u) (hl : lv_has ls 4 [(0, .ref h0), (3, .int (jI x3))]) (h : w_added_93 Q x3 y1 y2 u) : W p l e R s m args below meth c H locs 0 0 Qf (F0 m 93 ls [.int (jI y2), .int (jI y1), .ref (ad 4)]) := by
  have hx := X.1.1
  have hb := X.1.2.1
  unfold w_added_93 at h
  refine aS 4 5 4 452000 (fun _ _ _ _ => mG_4) (fun _ => rfl) (fun _ _ _ _ _ _ => mSA_4) (by decide) X hw ry1 ry2 dX12_added_93 rfl h (fun H locs u hw h => ?_)
  refine lv_aload_n hx hb dX12_added_94 rfl (lv_at hl 0 rfl) ?_
  refine gA 7 31 (by decide) L_7 (fun _ _ => mF_7) rfl X hw dX12_added_95 ?_
  refine lv_iload_n hx hb dX12_added_98 rfl (lv_at hl 1 rfl) ?_
  refine lv_aload_n hx hb dX12_added_99 rfl (lv_at hl 0 rfl) ?_
  refine gS 8 332 (by decide) L_8 (fun _ _ => mF_8) rfl X hw dX12_added_100 h (fun v11 rv11 h => ?_)
  refine aS 7 7 6 8192 (fun _ _ _ _ => mG_7) (fun _ => rfl) (fun _ _ _ _ _ _ => mSA_7) (by decide) X hw rx3 rv11 dX12_added_103 rfl h (fun H locs u hw h => ?_)
  refine lv_aload_n hx hb dX12_added_104 rfl (lv_at hl 0 rfl) ?_
  refine lv_dup hx hb dX12_added_105 rfl ?_
  refine gS 8 332 (by decide) L_8 (fun _ _ => mF_8) rfl X hw dX12_added_106 h (fun v12 rv12 h => ?_)
  refine lv_iconst hx hb dX12_added_109 (v := jI 1) rfl ?_
  refine k_iadd hx hb dX12_added_110 h (fun r13 h => ?_)
  refine pS 8 332 (by decide) L_8 rfl rfl rfl (fun _ _ _ _ _ => mSI_8) (by decide) X hw r13 dX12_added_111 h (fun H locs u hw h => ?_)
  refine lv_aload_n hx hb dX12_added_114 rfl (lv_at hl 0 rfl) ?_
  refine gS 8 332 (by decide) L_8 (fun _ _ => mF_8) rfl X hw dX12_added_115 h (fun v14 rv14 h => ?_)
  refine lv_iconst hx hb dX12_added_118 (v := jI 1) rfl ?_
  refine k_isub hx hb dX12_added_119 h (fun r15 h => ?_)
  exact hret _ _ _ _ _ _ r15 h hw dX12_added_120

def w_added_92 (Q : Int → iST → Prop) (x3 : Int) (y1 : Int) (y2 : Int) (y3 : Int) (u : iST) : Prop :=
  ov (y2 + y3) (
  w_added_93 Q x3 y1 (y2 + y3) u)
set_option maxRecDepth 20000 in
set_option maxHeartbeats 4000000 in
theorem b_added_92 (X : kX p m c cX12_added 4 s args D ca) (hRf : 0 ≤ R.frames) (hRl : 0 ≤ R.locals) {Q : Int → iST → Prop} (hret : ∀ (v : Int) (u : iST) (H : Heap) (locs : List Loc) (ls : Array Slot) (pc : Nat), inR v → Q v u → kW D ca A h0 ad H0 H locs u → decode cX12_added pc = .ok (.ireturn, 1) → W p l e R s m args below meth c H locs 0 0 Qf (F0 m pc ls [.int (jI v)])) {x3 y1 y2 y3 : Int} (rx3 : inR x3) (ry1 : inR y1) (ry2 : inR y2) (ry3 : inR y3) (hw : kW D ca A h0 ad H0 H locs u) (hl : lv_has ls 4 [(0, .ref h0), (3, .int (jI x3))]) (h : w_added_92 Q x3 y1 y2 y3 u) : W p l e R s m args below meth c H locs 0 0 Qf (F0 m 92 ls [.int (jI y3), .int (jI y2), .int (jI y1), .ref (ad 4)]) := by
  have hx := X.1.1
  have hb := X.1.2.1
  unfold w_added_92 at h
  refine k_iadd hx hb dX12_added_92 h (fun r10 h => ?_)
  exact b_added_93 X hRf hRl hret rx3 ry1 r10 hw hl h

def w_added (a0 : Int) (a1 : Int) (a2 : Int) (Q : Int → iST → Prop) (u : iST) : Prop :=
  rd (u.1 8) (fun v1 => 
  bd v1 452000 (sw (iA u 0 v1 a0) (fun u => 
  rd (u.1 8) (fun v2 => 
  bd v2 452000 (sw (iA u 1 v2 a1) (fun u => 
  rd (u.1 8) (fun v3 => 
  bd a2 8192 (rd (u.2.1 7 a2) (fun v4 => 
  bd v3 452000 (sw (iA u 2 v3 v4) (fun u => 
  rd (u.1 8) (fun v5 => 
  bd v5 452000 (sw (iA u 3 v5 0) (fun u => 
  rd (u.1 8) (fun v6 => 
  br (0 ≤ a0) (
    bd a0 452000 (rd (u.2.1 4 a0) (fun v7 => 
    bd a1 452000 (rd (u.2.1 4 a1) (fun v8 => 
    br (v7 ≤ v8) (
      bd a1 452000 (rd (u.2.1 4 a1) (fun v9 => 
      w_added_92 Q a2 v6 1 v9 u))) (
      bd a0 452000 (rd (u.2.1 4 a0) (fun v16 => 
      w_added_92 Q a2 v6 1 v16 u)))))))) (
    w_added_93 Q a2 v6 0 u))))))))))))))))
set_option maxRecDepth 20000 in
set_option maxHeartbeats 4000000 in
theorem b_added_s (X : kX p m c cX12_added 4 s args D ca) (hRf : 0 ≤ R.frames) (hRl : 0 ≤ R.locals) {Q : Int → iST → Prop} (hret : ∀ (v : Int) (u : iST) (H : Heap) (locs : List Loc) (ls : Array Slot) (pc : Nat), inR v → Q v u → kW D ca A h0 ad H0 H locs u → decode cX12_added pc = .ok (.ireturn, 1) → W p l e R s m args below meth c H locs 0 0 Qf (F0 m pc ls [.int (jI v)])) {a0 a1 a2 : Int} (ra0 : inR a0) (ra1 : inR a1) (ra2 : inR a2) (hw : kW D ca A h0 ad H0 H locs u) (hl : lv_has ls 4 [(0, .ref h0), (1, .int (jI a0)), (2, .int (jI a1)), (3, .int (jI a2))]) (h : w_added a0 a1 a2 Q u) : W p l e R s m args below meth c H locs 0 0 Qf (F0 m 0 ls []) := by
  have hx := X.1.1
  have hb := X.1.2.1
  unfold w_added at h
  refine lv_aload_n hx hb dX12_added_0 rfl (lv_at hl 0 rfl) ?_
  refine gA 0 8 (by decide) L_0 (fun _ _ => mF_0) rfl X hw dX12_added_1 ?_
  refine lv_aload_n hx hb dX12_added_4 rfl (lv_at hl 0 rfl) ?_
  refine gS 8 332 (by decide) L_8 (fun _ _ => mF_8) rfl X hw dX12_added_5 h (fun v1 rv1 h => ?_)
  refine lv_iload_n hx hb dX12_added_8 rfl (lv_at hl 1 rfl) ?_
  refine aS 0 1 0 452000 (fun _ _ _ _ => mG_0) (fun _ => rfl) (fun _ _ _ _ _ _ => mSA_0) (by decide) X hw rv1 ra0 dX12_added_9 rfl h (fun H locs u hw h => ?_)
  refine lv_aload_n hx hb dX12_added_10 rfl (lv_at hl 0 rfl) ?_
  refine gA 1 14 (by decide) L_1 (fun _ _ => mF_1) rfl X hw dX12_added_11 ?_
  refine lv_aload_n hx hb dX12_added_14 rfl (lv_at hl 0 rfl) ?_
  refine gS 8 332 (by decide) L_8 (fun _ _ => mF_8) rfl X hw dX12_added_15 h (fun v2 rv2 h => ?_)
  refine lv_iload_n hx hb dX12_added_18 rfl (lv_at hl 2 rfl) ?_
  refine aS 1 2 1 452000 (fun _ _ _ _ => mG_1) (fun _ => rfl) (fun _ _ _ _ _ _ => mSA_1) (by decide) X hw rv2 ra1 dX12_added_19 rfl h (fun H locs u hw h => ?_)
  refine lv_aload_n hx hb dX12_added_20 rfl (lv_at hl 0 rfl) ?_
  refine gA 2 17 (by decide) L_2 (fun _ _ => mF_2) rfl X hw dX12_added_21 ?_
  refine lv_aload_n hx hb dX12_added_24 rfl (lv_at hl 0 rfl) ?_
  refine gS 8 332 (by decide) L_8 (fun _ _ => mF_8) rfl X hw dX12_added_25 h (fun v3 rv3 h => ?_)
  refine lv_aload_n hx hb dX12_added_28 rfl (lv_at hl 0 rfl) ?_
  refine gA 7 31 (by decide) L_7 (fun _ _ => mF_7) rfl X hw dX12_added_29 ?_
  refine lv_iload_n hx hb dX12_added_32 rfl (lv_at hl 3 rfl) ?_
  refine aL 7 7 6 8192 (fun _ _ _ _ => mG_7) (fun _ => rfl) X hw ra2 dX12_added_33 rfl h (fun v4 rv4 h => ?_)
  refine aS 2 3 2 452000 (fun _ _ _ _ => mG_2) (fun _ => rfl) (fun _ _ _ _ _ _ => mSA_2) (by decide) X hw rv3 rv4 dX12_added_34 rfl h (fun H locs u hw h => ?_)
  refine lv_aload_n hx hb dX12_added_35 rfl (lv_at hl 0 rfl) ?_
  refine gA 3 20 (by decide) L_3 (fun _ _ => mF_3) rfl X hw dX12_added_36 ?_
  refine lv_aload_n hx hb dX12_added_39 rfl (lv_at hl 0 rfl) ?_
  refine gS 8 332 (by decide) L_8 (fun _ _ => mF_8) rfl X hw dX12_added_40 h (fun v5 rv5 h => ?_)
  refine lv_iconst hx hb dX12_added_43 (v := jI 0) rfl ?_
  refine aS 3 4 3 452000 (fun _ _ _ _ => mG_3) (fun _ => rfl) (fun _ _ _ _ _ _ => mSA_3) (by decide) X hw rv5 (by decide) dX12_added_44 rfl h (fun H locs u hw h => ?_)
  refine lv_aload_n hx hb dX12_added_45 rfl (lv_at hl 0 rfl) ?_
  refine gA 4 23 (by decide) L_4 (fun _ _ => mF_4) rfl X hw dX12_added_46 ?_
  refine lv_aload_n hx hb dX12_added_49 rfl (lv_at hl 0 rfl) ?_
  refine gS 8 332 (by decide) L_8 (fun _ _ => mF_8) rfl X hw dX12_added_50 h (fun v6 rv6 h => ?_)
  refine lv_iload_n hx hb dX12_added_53 rfl (lv_at hl 1 rfl) ?_
  refine k_if_ge hx hb ra0 dX12_added_54 (tgt := 61) rfl h (fun h => ?_) (fun h => ?_)
  · refine lv_iconst hx hb dX12_added_61 (v := jI 1) rfl ?_
    refine lv_aload_n hx hb dX12_added_62 rfl (lv_at hl 0 rfl) ?_
    refine gA 4 23 (by decide) L_4 (fun _ _ => mF_4) rfl X hw dX12_added_63 ?_
    refine lv_iload_n hx hb dX12_added_66 rfl (lv_at hl 1 rfl) ?_
    refine aL 4 5 4 452000 (fun _ _ _ _ => mG_4) (fun _ => rfl) X hw ra0 dX12_added_67 rfl h (fun v7 rv7 h => ?_)
    refine lv_aload_n hx hb dX12_added_68 rfl (lv_at hl 0 rfl) ?_
    refine gA 4 23 (by decide) L_4 (fun _ _ => mF_4) rfl X hw dX12_added_69 ?_
    refine lv_iload_n hx hb dX12_added_72 rfl (lv_at hl 2 rfl) ?_
    refine aL 4 5 4 452000 (fun _ _ _ _ => mG_4) (fun _ => rfl) X hw ra1 dX12_added_73 rfl h (fun v8 rv8 h => ?_)
    refine k_icmp_le hx hb rv7 rv8 dX12_added_74 (tgt := 86) rfl h (fun h => ?_) (fun h => ?_)
    · refine lv_aload_n hx hb dX12_added_86 rfl (lv_at hl 0 rfl) ?_
      refine gA 4 23 (by decide) L_4 (fun _ _ => mF_4) rfl X hw dX12_added_87 ?_
      refine lv_iload_n hx hb dX12_added_90 rfl (lv_at hl 2 rfl) ?_
      refine aL 4 5 4 452000 (fun _ _ _ _ => mG_4) (fun _ => rfl) X hw ra1 dX12_added_91 rfl h (fun v9 rv9 h => ?_)
      exact b_added_92 X hRf hRl hret ra2 rv6 (by decide) rv9 hw (lv_sub hl [0, 3] rfl) h
    · refine lv_aload_n hx hb dX12_added_77 rfl (lv_at hl 0 rfl) ?_
      refine gA 4 23 (by decide) L_4 (fun _ _ => mF_4) rfl X hw dX12_added_78 ?_
      refine lv_iload_n hx hb dX12_added_81 rfl (lv_at hl 1 rfl) ?_
      refine aL 4 5 4 452000 (fun _ _ _ _ => mG_4) (fun _ => rfl) X hw ra0 dX12_added_82 rfl h (fun v16 rv16 h => ?_)
      refine lv_goto hx hb dX12_added_83 (tgt := 92) rfl ?_
      exact b_added_92 X hRf hRl hret ra2 rv6 (by decide) rv16 hw (lv_sub hl [0, 3] rfl) h
  · refine lv_iconst hx hb dX12_added_57 (v := jI 0) rfl ?_
    refine lv_goto hx hb dX12_added_58 (tgt := 93) rfl ?_
    exact b_added_93 X hRf hRl hret ra2 rv6 (by decide) hw (lv_sub hl [0, 3] rfl) h

end
theorem c_added {l : Launch} {a0 : Int} {a1 : Int} {a2 : Int} (ra0 : inR a0) (ra1 : inR a1) (ra2 : inR a2) {Q : Int → iST → Prop} {u : iST} (h : w_added a0 a1 a2 Q u) : kMI l yX12_added (.code yX12_added cX12_added 4 (some .int) :: wsM) { frames := 0, cells := 0, slots := 0, locals := 0 } [.int (jI a0), .int (jI a1), .int (jI a2)] Q u := kMI_of rfl (fun _ => Nat.le_of_ble_eq_true rfl) (fun X hRf hRl hret hw hl => b_added_s X hRf hRl hret ra0 ra1 ra2 hw hl h)

/-! symbol -/
theorem dX12_symbol_0 : decode cX12_symbol 0 = .ok (.aload_n 0, 1) := by decide +kernel
theorem dX12_symbol_1 : decode cX12_symbol 1 = .ok (.iconst 0, 1) := by decide +kernel
theorem dX12_symbol_2 : decode cX12_symbol 2 = .ok (.aload_n 0, 1) := by decide +kernel
theorem dX12_symbol_3 : decode cX12_symbol 3 = .ok (.getfield 309, 3) := by decide +kernel
theorem dX12_symbol_6 : decode cX12_symbol 6 = .ok (.iconst 1, 1) := by decide +kernel
theorem dX12_symbol_7 : decode cX12_symbol 7 = .ok (.invokevirtual 328, 3) := by decide +kernel
theorem dX12_symbol_10 : decode cX12_symbol 10 = .ok (.istore_n 1, 1) := by decide +kernel
theorem dX12_symbol_11 : decode cX12_symbol 11 = .ok (.aload_n 0, 1) := by decide +kernel
theorem dX12_symbol_12 : decode cX12_symbol 12 = .ok (.getfield 31, 3) := by decide +kernel
theorem dX12_symbol_15 : decode cX12_symbol 15 = .ok (.iload_n 1, 1) := by decide +kernel
theorem dX12_symbol_16 : decode cX12_symbol 16 = .ok (.iaload, 1) := by decide +kernel
theorem dX12_symbol_17 : decode cX12_symbol 17 = .ok (.istore_n 2, 1) := by decide +kernel
theorem dX12_symbol_18 : decode cX12_symbol 18 = .ok (.iload_n 2, 1) := by decide +kernel
theorem dX12_symbol_19 : decode cX12_symbol 19 = .ok (.iconst (-1), 1) := by decide +kernel
theorem dX12_symbol_20 : decode cX12_symbol 20 = .ok (.if_icmp .eq 39, 3) := by decide +kernel
theorem dX12_symbol_23 : decode cX12_symbol 23 = .ok (.aload_n 0, 1) := by decide +kernel
theorem dX12_symbol_24 : decode cX12_symbol 24 = .ok (.getfield 8, 3) := by decide +kernel
theorem dX12_symbol_27 : decode cX12_symbol 27 = .ok (.iload_n 2, 1) := by decide +kernel
theorem dX12_symbol_28 : decode cX12_symbol 28 = .ok (.iaload, 1) := by decide +kernel
theorem dX12_symbol_29 : decode cX12_symbol 29 = .ok (.bipush (-2), 2) := by decide +kernel
theorem dX12_symbol_31 : decode cX12_symbol 31 = .ok (.if_icmp .ne 18, 3) := by decide +kernel
theorem dX12_symbol_34 : decode cX12_symbol 34 = .ok (.aload_n 0, 1) := by decide +kernel
theorem dX12_symbol_35 : decode cX12_symbol 35 = .ok (.aload_n 0, 1) := by decide +kernel
theorem dX12_symbol_36 : decode cX12_symbol 36 = .ok (.getfield 14, 3) := by decide +kernel
theorem dX12_symbol_39 : decode cX12_symbol 39 = .ok (.iload_n 2, 1) := by decide +kernel
theorem dX12_symbol_40 : decode cX12_symbol 40 = .ok (.iaload, 1) := by decide +kernel
theorem dX12_symbol_41 : decode cX12_symbol 41 = .ok (.invokevirtual 342, 3) := by decide +kernel
theorem dX12_symbol_44 : decode cX12_symbol 44 = .ok (.ifCond .eq 5, 3) := by decide +kernel
theorem dX12_symbol_47 : decode cX12_symbol 47 = .ok (.iload_n 2, 1) := by decide +kernel
theorem dX12_symbol_48 : decode cX12_symbol 48 = .ok (.ireturn, 1) := by decide +kernel
theorem dX12_symbol_49 : decode cX12_symbol 49 = .ok (.aload_n 0, 1) := by decide +kernel
theorem dX12_symbol_50 : decode cX12_symbol 50 = .ok (.getfield 17, 3) := by decide +kernel
theorem dX12_symbol_53 : decode cX12_symbol 53 = .ok (.iload_n 2, 1) := by decide +kernel
theorem dX12_symbol_54 : decode cX12_symbol 54 = .ok (.iaload, 1) := by decide +kernel
theorem dX12_symbol_55 : decode cX12_symbol 55 = .ok (.istore_n 2, 1) := by decide +kernel
theorem dX12_symbol_56 : decode cX12_symbol 56 = .ok (.goto (-38), 3) := by decide +kernel
theorem dX12_symbol_59 : decode cX12_symbol 59 = .ok (.aload_n 0, 1) := by decide +kernel
theorem dX12_symbol_60 : decode cX12_symbol 60 = .ok (.getfield 38, 3) := by decide +kernel
theorem dX12_symbol_63 : decode cX12_symbol 63 = .ok (.aload_n 0, 1) := by decide +kernel
theorem dX12_symbol_64 : decode cX12_symbol 64 = .ok (.getfield 346, 3) := by decide +kernel
theorem dX12_symbol_67 : decode cX12_symbol 67 = .ok (.aload_n 0, 1) := by decide +kernel
theorem dX12_symbol_68 : decode cX12_symbol 68 = .ok (.getfield 309, 3) := by decide +kernel
theorem dX12_symbol_71 : decode cX12_symbol 71 = .ok (.iastore, 1) := by decide +kernel
theorem dX12_symbol_72 : decode cX12_symbol 72 = .ok (.iconst 0, 1) := by decide +kernel
theorem dX12_symbol_73 : decode cX12_symbol 73 = .ok (.istore_n 2, 1) := by decide +kernel
theorem dX12_symbol_74 : decode cX12_symbol 74 = .ok (.iload_n 2, 1) := by decide +kernel
theorem dX12_symbol_75 : decode cX12_symbol 75 = .ok (.aload_n 0, 1) := by decide +kernel
theorem dX12_symbol_76 : decode cX12_symbol 76 = .ok (.getfield 309, 3) := by decide +kernel
theorem dX12_symbol_79 : decode cX12_symbol 79 = .ok (.if_icmp .ge 29, 3) := by decide +kernel
theorem dX12_symbol_82 : decode cX12_symbol 82 = .ok (.aload_n 0, 1) := by decide +kernel
theorem dX12_symbol_83 : decode cX12_symbol 83 = .ok (.getfield 35, 3) := by decide +kernel
theorem dX12_symbol_86 : decode cX12_symbol 86 = .ok (.bipush 12, 2) := by decide +kernel
theorem dX12_symbol_88 : decode cX12_symbol 88 = .ok (.aload_n 0, 1) := by decide +kernel
theorem dX12_symbol_89 : decode cX12_symbol 89 = .ok (.getfield 346, 3) := by decide +kernel
theorem dX12_symbol_92 : decode cX12_symbol 92 = .ok (.imul, 1) := by decide +kernel
theorem dX12_symbol_93 : decode cX12_symbol 93 = .ok (.iload_n 2, 1) := by decide +kernel
theorem dX12_symbol_94 : decode cX12_symbol 94 = .ok (.iadd, 1) := by decide +kernel
theorem dX12_symbol_95 : decode cX12_symbol 95 = .ok (.aload_n 0, 1) := by decide +kernel
theorem dX12_symbol_96 : decode cX12_symbol 96 = .ok (.getfield 50, 3) := by decide +kernel
theorem dX12_symbol_99 : decode cX12_symbol 99 = .ok (.iload_n 2, 1) := by decide +kernel
theorem dX12_symbol_100 : decode cX12_symbol 100 = .ok (.iaload, 1) := by decide +kernel
theorem dX12_symbol_101 : decode cX12_symbol 101 = .ok (.iastore, 1) := by decide +kernel
theorem dX12_symbol_102 : decode cX12_symbol 102 = .ok (.iinc 2 1, 3) := by decide +kernel
theorem dX12_symbol_105 : decode cX12_symbol 105 = .ok (.goto (-31), 3) := by decide +kernel
theorem dX12_symbol_108 : decode cX12_symbol 108 = .ok (.aload_n 0, 1) := by decide +kernel
theorem dX12_symbol_109 : decode cX12_symbol 109 = .ok (.dup, 1) := by decide +kernel
theorem dX12_symbol_110 : decode cX12_symbol 110 = .ok (.getfield 346, 3) := by decide +kernel
theorem dX12_symbol_113 : decode cX12_symbol 113 = .ok (.iconst 1, 1) := by decide +kernel
theorem dX12_symbol_114 : decode cX12_symbol 114 = .ok (.iadd, 1) := by decide +kernel
theorem dX12_symbol_115 : decode cX12_symbol 115 = .ok (.putfield 346, 3) := by decide +kernel
theorem dX12_symbol_118 : decode cX12_symbol 118 = .ok (.aload_n 0, 1) := by decide +kernel
theorem dX12_symbol_119 : decode cX12_symbol 119 = .ok (.bipush (-2), 2) := by decide +kernel
theorem dX12_symbol_121 : decode cX12_symbol 121 = .ok (.aload_n 0, 1) := by decide +kernel
theorem dX12_symbol_122 : decode cX12_symbol 122 = .ok (.getfield 346, 3) := by decide +kernel
theorem dX12_symbol_125 : decode cX12_symbol 125 = .ok (.iconst 1, 1) := by decide +kernel
theorem dX12_symbol_126 : decode cX12_symbol 126 = .ok (.isub, 1) := by decide +kernel
theorem dX12_symbol_127 : decode cX12_symbol 127 = .ok (.iload_n 1, 1) := by decide +kernel
theorem dX12_symbol_128 : decode cX12_symbol 128 = .ok (.invokevirtual 335, 3) := by decide +kernel
theorem dX12_symbol_131 : decode cX12_symbol 131 = .ok (.ireturn, 1) := by decide +kernel

section
variable {p : Program} {l : Launch} {e : Env} {R : Room} {s : State} {m : MethodId} {args : Array Value} {below : List Frame} {meth : Method} {c : Code} {H : Heap} {locs : List Loc} {Qf : State → Prop}
variable {ls : Array Slot} {D : va_G} {ca : Nat → ClassId} {A : Nat → Prop} {h0 : Nat} {ad : Nat → Nat} {H0 : Heap} {u : iST}
def w_symbol_74b (R74 : Int → Int → iST → Prop) (Q : Int → iST → Prop) (x1 : Int) (x2 : Int) (u : iST) : Prop :=
  rd (u.1 18) (fun v6 => 
  br (v6 ≤ x2) (
    rd (u.1 11) (fun v7 => 
    ov (v7 + 1) (
    sw (iI u 11 (v7 + 1)) (fun u => 
    rd (u.1 11) (fun v9 => 
    ov (v9 - 1) (
    w_added (-2) (v9 - 1) x1 (fun v11 u => 
    Q v11 u) u)))))) (
    rd (u.1 11) (fun v12 => 
    ov (12 * v12) (
    ov ((12 * v12) + x2) (
    bd x2 12 (rd (u.2.1 17 x2) (fun v15 => 
    bd ((12 * v12) + x2) 252000 (sw (iA u 9 ((12 * v12) + x2) v15) (fun u => 
    ov (x2 + 1) (
    R74 x1 (x2 + 1) u))))))))))
def w_symbol_74 (Q : Int → iST → Prop) (x1 : Int) (x2 : Int) (u : iST) : Prop := ∀ R74 : Int → Int → iST → Prop, (∀ (x1 : Int) (x2 : Int) (u : iST), w_symbol_74b R74 Q x1 x2 u → R74 x1 x2 u) → R74 x1 x2 u
set_option maxRecDepth 20000 in
set_option maxHeartbeats 4000000 in
theorem b_symbol_74 (X : kX p m c cX12_symbol 3 s args D ca) (hRf : 1 ≤ R.frames) (hRl : 25 ≤ R.locals) {Q : Int → iST → Prop} (hret : ∀ (v : Int) (u : iST) (H : Heap) (locs : List Loc) (ls : Array Slot) (pc : Nat), inR v → Q v u → kW D ca A h0 ad H0 H locs u → decode cX12_symbol pc = .ok (.ireturn, 1) → W p l e R s m args below meth c H locs 0 0 Qf (F0 m pc ls [.int (jI v)])) {x1 x2 : Int} (rx1 : inR x1) (rx2 : inR x2) (hw : kW D ca A h0 ad H0 H locs u) (hl : lv_has ls 3 [(0, .ref h0), (1, .int (jI x1)), (2, .int (jI x2))]) (h : w_symbol_74 Q x1 x2 u) : W p l e R s m args below meth c H locs 0 0 Qf (F0 m 74 ls []) := by
  refine h (fun x1 x2 u => ∀ (H : Heap) (locs : List Loc) (ls : Array Slot), inR x1 → inR x2 → kW D ca A h0 ad H0 H locs u → lv_has ls 3 [(0, .ref h0), (1, .int (jI x1)), (2, .int (jI x2))] → W p l e R s m args below meth c H locs 0 0 Qf (F0 m 74 ls [])) ?_ H locs ls rx1 rx2 hw hl
  clear h hl hw rx1 rx2
  intro x1 x2 u h H locs ls rx1 rx2 hw hl
  have hR74 : ∀ (x1 : Int) (x2 : Int) (u : iST) (H : Heap) (locs : List Loc) (ls : Array Slot), inR x1 → inR x2 → kW D ca A h0 ad H0 H locs u → lv_has ls 3 [(0, .ref h0), (1, .int (jI x1)), (2, .int (jI x2))] → (fun (x1 : Int) (x2 : Int) u => ∀ (H : Heap) (locs : List Loc) (ls : Array Slot), inR x1 → inR x2 → kW D ca A h0 ad H0 H locs u → lv_has ls 3 [(0, .ref h0), (1, .int (jI x1)), (2, .int (jI x2))] → W p l e R s m args below meth c H locs 0 0 Qf (F0 m 74 ls [])) x1 x2 u → W p l e R s m args below meth c H locs 0 0 Qf (F0 m 74 ls []) := fun x1 x2 u H locs ls rx1 rx2 hw hl h => h H locs ls rx1 rx2 hw hl
  have hx := X.1.1
  have hb := X.1.2.1
  unfold w_symbol_74b at h
  refine lv_iload_n hx hb dX12_symbol_74 rfl (lv_at hl 2 rfl) ?_
  refine lv_aload_n hx hb dX12_symbol_75 rfl (lv_at hl 0 rfl) ?_
  refine gS 18 309 (by decide) L_18 (fun _ _ => mF_18) rfl X hw dX12_symbol_76 h (fun v6 rv6 h => ?_)
  refine k_icmp_ge hx hb rx2 rv6 dX12_symbol_79 (tgt := 108) rfl h (fun h => ?_) (fun h => ?_)
  · refine lv_aload_n hx hb dX12_symbol_108 rfl (lv_at hl 0 rfl) ?_
    refine lv_dup hx hb dX12_symbol_109 rfl ?_
    refine gS 11 346 (by decide) L_11 (fun _ _ => mF_11) rfl X hw dX12_symbol_110 h (fun v7 rv7 h => ?_)
    refine lv_iconst hx hb dX12_symbol_113 (v := jI 1) rfl ?_
    refine k_iadd hx hb dX12_symbol_114 h (fun r8 h => ?_)
    refine pS 11 346 (by decide) L_11 rfl rfl rfl (fun _ _ _ _ _ => mSI_11) (by decide) X hw r8 dX12_symbol_115 h (fun H locs u hw h => ?_)
    refine lv_aload_n hx hb dX12_symbol_118 rfl (lv_at hl 0 rfl) ?_
    refine lv_bipush hx hb dX12_symbol_119 (v := jI (-2)) rfl ?_
    refine lv_aload_n hx hb dX12_symbol_121 rfl (lv_at hl 0 rfl) ?_
    refine gS 11 346 (by decide) L_11 (fun _ _ => mF_11) rfl X hw dX12_symbol_122 h (fun v9 rv9 h => ?_)
    refine lv_iconst hx hb dX12_symbol_125 (v := jI 1) rfl ?_
    refine k_isub hx hb dX12_symbol_126 h (fun r10 h => ?_)
    refine lv_iload_n hx hb dX12_symbol_127 rfl (lv_at hl 1 rfl) ?_
    refine kcI (n := 3) (c_added (by decide) r10 rx1 h) G_added E_added X hw (Nat.le_trans (Nat.le_of_ble_eq_true rfl) hRf) (Nat.le_trans (Nat.le_of_ble_eq_true rfl) hRl) rfl hl.1 (Nat.le_of_ble_eq_true rfl) rfl dX12_symbol_128 (fun v11 u H locs rv11 h hw => ?_)
    exact hret _ _ _ _ _ _ rv11 h hw dX12_symbol_131
  · refine lv_aload_n hx hb dX12_symbol_82 rfl (lv_at hl 0 rfl) ?_
    refine gA 9 35 (by decide) L_9 (fun _ _ => mF_9) rfl X hw dX12_symbol_83 ?_
    refine lv_bipush hx hb dX12_symbol_86 (v := jI 12) rfl ?_
    refine lv_aload_n hx hb dX12_symbol_88 rfl (lv_at hl 0 rfl) ?_
    refine gS 11 346 (by decide) L_11 (fun _ _ => mF_11) rfl X hw dX12_symbol_89 h (fun v12 rv12 h => ?_)
    refine k_imul hx hb dX12_symbol_92 h (fun r13 h => ?_)
    refine lv_iload_n hx hb dX12_symbol_93 rfl (lv_at hl 2 rfl) ?_
    refine k_iadd hx hb dX12_symbol_94 h (fun r14 h => ?_)
    refine lv_aload_n hx hb dX12_symbol_95 rfl (lv_at hl 0 rfl) ?_
    refine gA 17 50 (by decide) L_17 (fun _ _ => mF_17) rfl X hw dX12_symbol_96 ?_
    refine lv_iload_n hx hb dX12_symbol_99 rfl (lv_at hl 2 rfl) ?_
    refine aL 17 13 12 12 (fun _ _ _ _ => mG_17) (fun _ => rfl) X hw rx2 dX12_symbol_100 rfl h (fun v15 rv15 h => ?_)
    refine aS 9 8 7 252000 (fun _ _ _ _ => mG_9) (fun _ => rfl) (fun _ _ _ _ _ _ => mSA_9) (by decide) X hw r14 rv15 dX12_symbol_101 rfl h (fun H locs u hw h => ?_)
    refine k_iinc (k := 2) hx hb dX12_symbol_102 hl rfl (by decide) rfl h (fun ls r16 h hl => ?_)
    have hl : lv_has ls 3 [(2, .int (jI (x2 + 1))), (0, .ref (h0)), (1, .int (jI x1))] := hl
    refine lv_goto hx hb dX12_symbol_105 (tgt := 74) rfl ?_
    exact hR74 _ _ _ H locs ls rx1 r16 hw (lv_sub hl [1, 2, 0] rfl) h

def w_symbol_49 (R18 : Int → Int → iST → Prop) (Q : Int → iST → Prop) (x1 : Int) (x2 : Int) (u : iST) : Prop :=
  bd x2 452000 (rd (u.2.1 2 x2) (fun v18 => 
  R18 x1 v18 u))
set_option maxRecDepth 20000 in
set_option maxHeartbeats 4000000 in
theorem b_symbol_49 (X : kX p m c cX12_symbol 3 s args D ca) (hRf : 1 ≤ R.frames) (hRl : 25 ≤ R.locals) {Q : Int → iST → Prop} (hret : ∀ (v : Int) (u : iST) (H : Heap) (locs : List Loc) (ls : Array Slot) (pc : Nat), inR v → Q v u → kW D ca A h0 ad H0 H locs u → decode cX12_symbol pc = .ok (.ireturn, 1) → W p l e R s m args below meth c H locs 0 0 Qf (F0 m pc ls [.int (jI v)])) {R18 : Int → Int → iST → Prop} (hR18 : ∀ (x1 : Int) (x2 : Int) (u : iST) (H : Heap) (locs : List Loc) (ls : Array Slot), inR x1 → inR x2 → kW D ca A h0 ad H0 H locs u → lv_has ls 3 [(0, .ref h0), (1, .int (jI x1)), (2, .int (jI x2))] → R18 x1 x2 u → W p l e R s m args below meth c H locs 0 0 Qf (F0 m 18 ls [])) {x1 x2 : Int} (rx1 : inR x1) (rx2 : inR x2) (hw : kW D ca A h0 ad H0 H locs u) (hl : lv_has ls 3 [(0, .ref h0), (1, .int (jI x1)), (2, .int (jI x2))]) (h : w_symbol_49 R18 Q x1 x2 u) : W p l e R s m args below meth c H locs 0 0 Qf (F0 m 49 ls []) := by
  have hx := X.1.1
  have hb := X.1.2.1
  unfold w_symbol_49 at h
  refine lv_aload_n hx hb dX12_symbol_49 rfl (lv_at hl 0 rfl) ?_
  refine gA 2 17 (by decide) L_2 (fun _ _ => mF_2) rfl X hw dX12_symbol_50 ?_
  refine lv_iload_n hx hb dX12_symbol_53 rfl (lv_at hl 2 rfl) ?_
  refine aL 2 3 2 452000 (fun _ _ _ _ => mG_2) (fun _ => rfl) X hw rx2 dX12_symbol_54 rfl h (fun v18 rv18 h => ?_)
  refine lv_istore_n hx hb dX12_symbol_55 rfl hl (by decide) rfl (fun ls hl => ?_)
  have hl : lv_has ls 3 [(2, .int (jI v18)), (0, .ref (h0)), (1, .int (jI x1))] := hl
  refine lv_goto hx hb dX12_symbol_56 (tgt := 18) rfl ?_
  exact hR18 _ _ _ H locs ls rx1 rv18 hw (lv_sub hl [1, 2, 0] rfl) h

def w_symbol_18b (R18 : Int → Int → iST → Prop) (Q : Int → iST → Prop) (x1 : Int) (x2 : Int) (u : iST) : Prop :=
  br (x2 = (-1)) (
    rd (u.1 11) (fun v4 => 
    rd (u.1 18) (fun v5 => 
    bd v4 21000 (sw (iA u 10 v4 v5) (fun u => 
    w_symbol_74 Q x1 0 u))))) (
    bd x2 452000 (rd (u.2.1 0 x2) (fun v17 => 
    br (v17 ≠ (-2)) (
      w_symbol_49 R18 Q x1 x2 u) (
      bd x2 452000 (rd (u.2.1 1 x2) (fun v19 => 
      w_isWord v19 (fun v20 u => 
      br (v20 = 0) (
        w_symbol_49 R18 Q x1 x2 u) (
        Q x2 u)) u))))))
def w_symbol_18 (Q : Int → iST → Prop) (x1 : Int) (x2 : Int) (u : iST) : Prop := ∀ R18 : Int → Int → iST → Prop, (∀ (x1 : Int) (x2 : Int) (u : iST), w_symbol_18b R18 Q x1 x2 u → R18 x1 x2 u) → R18 x1 x2 u
set_option maxRecDepth 20000 in
set_option maxHeartbeats 4000000 in
theorem b_symbol_18 (X : kX p m c cX12_symbol 3 s args D ca) (hRf : 1 ≤ R.frames) (hRl : 25 ≤ R.locals) {Q : Int → iST → Prop} (hret : ∀ (v : Int) (u : iST) (H : Heap) (locs : List Loc) (ls : Array Slot) (pc : Nat), inR v → Q v u → kW D ca A h0 ad H0 H locs u → decode cX12_symbol pc = .ok (.ireturn, 1) → W p l e R s m args below meth c H locs 0 0 Qf (F0 m pc ls [.int (jI v)])) {x1 x2 : Int} (rx1 : inR x1) (rx2 : inR x2) (hw : kW D ca A h0 ad H0 H locs u) (hl : lv_has ls 3 [(0, .ref h0), (1, .int (jI x1)), (2, .int (jI x2))]) (h : w_symbol_18 Q x1 x2 u) : W p l e R s m args below meth c H locs 0 0 Qf (F0 m 18 ls []) := by
  refine h (fun x1 x2 u => ∀ (H : Heap) (locs : List Loc) (ls : Array Slot), inR x1 → inR x2 → kW D ca A h0 ad H0 H locs u → lv_has ls 3 [(0, .ref h0), (1, .int (jI x1)), (2, .int (jI x2))] → W p l e R s m args below meth c H locs 0 0 Qf (F0 m 18 ls [])) ?_ H locs ls rx1 rx2 hw hl
  clear h hl hw rx1 rx2
  intro x1 x2 u h H locs ls rx1 rx2 hw hl
  have hR18 : ∀ (x1 : Int) (x2 : Int) (u : iST) (H : Heap) (locs : List Loc) (ls : Array Slot), inR x1 → inR x2 → kW D ca A h0 ad H0 H locs u → lv_has ls 3 [(0, .ref h0), (1, .int (jI x1)), (2, .int (jI x2))] → (fun (x1 : Int) (x2 : Int) u => ∀ (H : Heap) (locs : List Loc) (ls : Array Slot), inR x1 → inR x2 → kW D ca A h0 ad H0 H locs u → lv_has ls 3 [(0, .ref h0), (1, .int (jI x1)), (2, .int (jI x2))] → W p l e R s m args below meth c H locs 0 0 Qf (F0 m 18 ls [])) x1 x2 u → W p l e R s m args below meth c H locs 0 0 Qf (F0 m 18 ls []) := fun x1 x2 u H locs ls rx1 rx2 hw hl h => h H locs ls rx1 rx2 hw hl
  have hx := X.1.1
  have hb := X.1.2.1
  unfold w_symbol_18b at h
  refine lv_iload_n hx hb dX12_symbol_18 rfl (lv_at hl 2 rfl) ?_
  refine lv_iconst hx hb dX12_symbol_19 (v := jI (-1)) rfl ?_
  refine k_icmp_eq hx hb rx2 (by decide) dX12_symbol_20 (tgt := 59) rfl h (fun h => ?_) (fun h => ?_)
  · refine lv_aload_n hx hb dX12_symbol_59 rfl (lv_at hl 0 rfl) ?_
    refine gA 10 38 (by decide) L_10 (fun _ _ => mF_10) rfl X hw dX12_symbol_60 ?_
    refine lv_aload_n hx hb dX12_symbol_63 rfl (lv_at hl 0 rfl) ?_
    refine gS 11 346 (by decide) L_11 (fun _ _ => mF_11) rfl X hw dX12_symbol_64 h (fun v4 rv4 h => ?_)
    refine lv_aload_n hx hb dX12_symbol_67 rfl (lv_at hl 0 rfl) ?_
    refine gS 18 309 (by decide) L_18 (fun _ _ => mF_18) rfl X hw dX12_symbol_68 h (fun v5 rv5 h => ?_)
    refine aS 10 9 8 21000 (fun _ _ _ _ => mG_10) (fun _ => rfl) (fun _ _ _ _ _ _ => mSA_10) (by decide) X hw rv4 rv5 dX12_symbol_71 rfl h (fun H locs u hw h => ?_)
    refine lv_iconst hx hb dX12_symbol_72 (v := jI 0) rfl ?_
    refine lv_istore_n hx hb dX12_symbol_73 rfl hl (by decide) rfl (fun ls hl => ?_)
    have hl : lv_has ls 3 [(2, .int (jI 0)), (0, .ref (h0)), (1, .int (jI x1))] := hl
    exact b_symbol_74 X hRf hRl hret rx1 (by decide) hw (lv_sub hl [1, 2, 0] rfl) h
  · refine lv_aload_n hx hb dX12_symbol_23 rfl (lv_at hl 0 rfl) ?_
    refine gA 0 8 (by decide) L_0 (fun _ _ => mF_0) rfl X hw dX12_symbol_24 ?_
    refine lv_iload_n hx hb dX12_symbol_27 rfl (lv_at hl 2 rfl) ?_
    refine aL 0 1 0 452000 (fun _ _ _ _ => mG_0) (fun _ => rfl) X hw rx2 dX12_symbol_28 rfl h (fun v17 rv17 h => ?_)
    refine lv_bipush hx hb dX12_symbol_29 (v := jI (-2)) rfl ?_
    refine k_icmp_ne hx hb rv17 (by decide) dX12_symbol_31 (tgt := 49) rfl h (fun h => ?_) (fun h => ?_)
    · exact b_symbol_49 X hRf hRl hret hR18 rx1 rx2 hw hl h
    · refine lv_aload_n hx hb dX12_symbol_34 rfl (lv_at hl 0 rfl) ?_
      refine lv_aload_n hx hb dX12_symbol_35 rfl (lv_at hl 0 rfl) ?_
      refine gA 1 14 (by decide) L_1 (fun _ _ => mF_1) rfl X hw dX12_symbol_36 ?_
      refine lv_iload_n hx hb dX12_symbol_39 rfl (lv_at hl 2 rfl) ?_
      refine aL 1 2 1 452000 (fun _ _ _ _ => mG_1) (fun _ => rfl) X hw rx2 dX12_symbol_40 rfl h (fun v19 rv19 h => ?_)
      refine kcI (n := 1) (c_isWord rv19 h) G_isWord E_isWord X hw (Nat.le_trans (Nat.le_of_ble_eq_true rfl) hRf) (Nat.le_trans (Nat.le_of_ble_eq_true rfl) hRl) rfl hl.1 (Nat.le_of_ble_eq_true rfl) rfl dX12_symbol_41 (fun v20 u H locs rv20 h hw => ?_)
      refine k_if_eq hx hb rv20 dX12_symbol_44 (tgt := 49) rfl h (fun h => ?_) (fun h => ?_)
      · exact b_symbol_49 X hRf hRl hret hR18 rx1 rx2 hw hl h
      · refine lv_iload_n hx hb dX12_symbol_47 rfl (lv_at hl 2 rfl) ?_
        exact hret _ _ _ _ _ _ rx2 h hw dX12_symbol_48

def w_symbol (Q : Int → iST → Prop) (u : iST) : Prop :=
  rd (u.1 18) (fun v1 => 
  w_spelled 0 v1 1 (fun v2 u => 
  bd v2 8192 (rd (u.2.1 7 v2) (fun v3 => 
  w_symbol_18 Q v2 v3 u))) u)
set_option maxRecDepth 20000 in
set_option maxHeartbeats 4000000 in
theorem b_symbol_s (X : kX p m c cX12_symbol 3 s args D ca) (hRf : 1 ≤ R.frames) (hRl : 25 ≤ R.locals) {Q : Int → iST → Prop} (hret : ∀ (v : Int) (u : iST) (H : Heap) (locs : List Loc) (ls : Array Slot) (pc : Nat), inR v → Q v u → kW D ca A h0 ad H0 H locs u → decode cX12_symbol pc = .ok (.ireturn, 1) → W p l e R s m args below meth c H locs 0 0 Qf (F0 m pc ls [.int (jI v)])) (hw : kW D ca A h0 ad H0 H locs u) (hl : lv_has ls 3 [(0, .ref h0)]) (h : w_symbol Q u) : W p l e R s m args below meth c H locs 0 0 Qf (F0 m 0 ls []) := by
  have hx := X.1.1
  have hb := X.1.2.1
  unfold w_symbol at h
  refine lv_aload_n hx hb dX12_symbol_0 rfl (lv_at hl 0 rfl) ?_
  refine lv_iconst hx hb dX12_symbol_1 (v := jI 0) rfl ?_
  refine lv_aload_n hx hb dX12_symbol_2 rfl (lv_at hl 0 rfl) ?_
  refine gS 18 309 (by decide) L_18 (fun _ _ => mF_18) rfl X hw dX12_symbol_3 h (fun v1 rv1 h => ?_)
  refine lv_iconst hx hb dX12_symbol_6 (v := jI 1) rfl ?_
  refine kcI (n := 3) (c_spelled (by decide) rv1 (by decide) h) G_spelled E_spelled X hw (Nat.le_trans (Nat.le_of_ble_eq_true rfl) hRf) (Nat.le_trans (Nat.le_of_ble_eq_true rfl) hRl) rfl hl.1 (Nat.le_of_ble_eq_true rfl) rfl dX12_symbol_7 (fun v2 u H locs rv2 h hw => ?_)
  refine lv_istore_n hx hb dX12_symbol_10 rfl hl (by decide) rfl (fun ls hl => ?_)
  have hl : lv_has ls 3 [(1, .int (jI v2)), (0, .ref (h0))] := hl
  refine lv_aload_n hx hb dX12_symbol_11 rfl (lv_at hl 1 rfl) ?_
  refine gA 7 31 (by decide) L_7 (fun _ _ => mF_7) rfl X hw dX12_symbol_12 ?_
  refine lv_iload_n hx hb dX12_symbol_15 rfl (lv_at hl 0 rfl) ?_
  refine aL 7 7 6 8192 (fun _ _ _ _ => mG_7) (fun _ => rfl) X hw rv2 dX12_symbol_16 rfl h (fun v3 rv3 h => ?_)
  refine lv_istore_n hx hb dX12_symbol_17 rfl hl (by decide) rfl (fun ls hl => ?_)
  have hl : lv_has ls 3 [(2, .int (jI v3)), (1, .int (jI v2)), (0, .ref (h0))] := hl
  exact b_symbol_18 X hRf hRl hret rv2 rv3 hw (lv_sub hl [2, 1, 0] rfl) h

end
theorem c_symbol {l : Launch} {Q : Int → iST → Prop} {u : iST} (h : w_symbol Q u) : kMI l yX12_symbol (.code yX12_symbol cX12_symbol 3 (some .int) :: wsM) { frames := 1, cells := 0, slots := 0, locals := 25 } [] Q u := kMI_of rfl (fun _ => Nat.le_of_ble_eq_true rfl) (fun X hRf hRl hret hw hl => b_symbol_s X hRf hRl hret hw hl h)

/-! slot -/
theorem dX12_slot_0 : decode cX12_slot 0 = .ok (.iload_n 0, 1) := by decide +kernel
theorem dX12_slot_1 : decode cX12_slot 1 = .ok (.ldc_w 320, 3) := by decide +kernel
theorem dX12_slot_4 : decode cX12_slot 4 = .ok (.imul, 1) := by decide +kernel
theorem dX12_slot_5 : decode cX12_slot 5 = .ok (.iload_n 1, 1) := by decide +kernel
theorem dX12_slot_6 : decode cX12_slot 6 = .ok (.sipush 30011, 3) := by decide +kernel
theorem dX12_slot_9 : decode cX12_slot 9 = .ok (.imul, 1) := by decide +kernel
theorem dX12_slot_10 : decode cX12_slot 10 = .ok (.iadd, 1) := by decide +kernel
theorem dX12_slot_11 : decode cX12_slot 11 = .ok (.bipush 7, 2) := by decide +kernel
theorem dX12_slot_13 : decode cX12_slot 13 = .ok (.iadd, 1) := by decide +kernel
theorem dX12_slot_14 : decode cX12_slot 14 = .ok (.iconst 2, 1) := by decide +kernel
theorem dX12_slot_15 : decode cX12_slot 15 = .ok (.iushr, 1) := by decide +kernel
theorem dX12_slot_16 : decode cX12_slot 16 = .ok (.sipush 8191, 3) := by decide +kernel
theorem dX12_slot_19 : decode cX12_slot 19 = .ok (.iand, 1) := by decide +kernel
theorem dX12_slot_20 : decode cX12_slot 20 = .ok (.ireturn, 1) := by decide +kernel

section
variable {p : Program} {l : Launch} {e : Env} {R : Room} {s : State} {m : MethodId} {args : Array Value} {below : List Frame} {meth : Method} {c : Code} {H : Heap} {locs : List Loc} {Qf : State → Prop}
variable {ls : Array Slot} {D : va_G} {ca : Nat → ClassId} {A : Nat → Prop} {h0 : Nat} {ad : Nat → Nat} {H0 : Heap} {u : iST}
def w_slot (a0 : Int) (a1 : Int) (Q : Int → iST → Prop) (u : iST) : Prop :=
  rd (wmul a0 40503) (fun v1 => 
  rd (wmul a1 30011) (fun v2 => 
  rd (wadd v1 v2) (fun v3 => 
  rd (wadd v3 7) (fun v4 => 
  rd (wushr v4 2) (fun v5 => 
  rd (wand v5 8191) (fun v6 => 
  Q v6 u))))))
set_option maxRecDepth 20000 in
set_option maxHeartbeats 4000000 in
theorem b_slot_s (X : kX p m c cX12_slot 2 s args D ca) (hRf : 0 ≤ R.frames) (hRl : 0 ≤ R.locals) {Q : Int → iST → Prop} (hret : ∀ (v : Int) (u : iST) (H : Heap) (locs : List Loc) (ls : Array Slot) (pc : Nat), inR v → Q v u → kW D ca A h0 ad H0 H locs u → decode cX12_slot pc = .ok (.ireturn, 1) → W p l e R s m args below meth c H locs 0 0 Qf (F0 m pc ls [.int (jI v)])) {a0 a1 : Int} (ra0 : inR a0) (ra1 : inR a1) (hw : kW D ca A h0 ad H0 H locs u) (hl : lv_has ls 2 [(0, .int (jI a0)), (1, .int (jI a1))]) (h : w_slot a0 a1 Q u) : W p l e R s m args below meth c H locs 0 0 Qf (F0 m 0 ls []) := by
  have hx := X.1.1
  have hb := X.1.2.1
  unfold w_slot at h
  refine lv_iload_n hx hb dX12_slot_0 rfl (lv_at hl 0 rfl) ?_
  refine kldw 320 K_320 X dX12_slot_1 ?_
  refine k_wmul hx hb dX12_slot_4 h (fun v1 rv1 h => ?_)
  refine lv_iload_n hx hb dX12_slot_5 rfl (lv_at hl 1 rfl) ?_
  refine lv_sipush hx hb dX12_slot_6 (v := jI 30011) rfl ?_
  refine k_wmul hx hb dX12_slot_9 h (fun v2 rv2 h => ?_)
  refine k_wadd hx hb dX12_slot_10 h (fun v3 rv3 h => ?_)
  refine lv_bipush hx hb dX12_slot_11 (v := jI 7) rfl ?_
  refine k_wadd hx hb dX12_slot_13 h (fun v4 rv4 h => ?_)
  refine lv_iconst hx hb dX12_slot_14 (v := jI 2) rfl ?_
  refine k_iushr hx hb dX12_slot_15 h (fun v5 rv5 h => ?_)
  refine lv_sipush hx hb dX12_slot_16 (v := jI 8191) rfl ?_
  refine k_iand hx hb dX12_slot_19 h (fun v6 rv6 h => ?_)
  exact hret _ _ _ _ _ _ rv6 h hw dX12_slot_20

end
theorem c_slot {l : Launch} {a0 : Int} {a1 : Int} (ra0 : inR a0) (ra1 : inR a1) {Q : Int → iST → Prop} {u : iST} (h : w_slot a0 a1 Q u) : kSI l yX12_slot (.code yX12_slot cX12_slot 2 (some .int) :: wsM) { frames := 0, cells := 0, slots := 0, locals := 0 } [.int (jI a0), .int (jI a1)] Q u := kSI_of rfl (fun _ => Nat.le_of_ble_eq_true rfl) (fun X hRf hRl hret hw hl => b_slot_s X hRf hRl hret ra0 ra1 hw hl h)

/-! value -/
theorem dX12_value_0 : decode cX12_value 0 = .ok (.aload_n 0, 1) := by decide +kernel
theorem dX12_value_1 : decode cX12_value 1 = .ok (.getfield 27, 3) := by decide +kernel
theorem dX12_value_4 : decode cX12_value 4 = .ok (.aload_n 0, 1) := by decide +kernel
theorem dX12_value_5 : decode cX12_value 5 = .ok (.getfield 14, 3) := by decide +kernel
theorem dX12_value_8 : decode cX12_value 8 = .ok (.iload_n 1, 1) := by decide +kernel
theorem dX12_value_9 : decode cX12_value 9 = .ok (.iaload, 1) := by decide +kernel
theorem dX12_value_10 : decode cX12_value 10 = .ok (.laload, 1) := by decide +kernel
theorem dX12_value_11 : decode cX12_value 11 = .ok (.lreturn, 1) := by decide +kernel

section
variable {p : Program} {l : Launch} {e : Env} {R : Room} {s : State} {m : MethodId} {args : Array Value} {below : List Frame} {meth : Method} {c : Code} {H : Heap} {locs : List Loc} {Qf : State → Prop}
variable {ls : Array Slot} {D : va_G} {ca : Nat → ClassId} {A : Nat → Prop} {h0 : Nat} {ad : Nat → Nat} {H0 : Heap} {u : iST}
def w_value (a0 : Int) (Q : Int → iST → Prop) (u : iST) : Prop :=
  bd a0 452000 (rd (u.2.1 1 a0) (fun v1 => 
  bd v1 40000 (rl (u.2.2 v1) (fun v2 => 
  Q v2 u))))
set_option maxRecDepth 20000 in
set_option maxHeartbeats 4000000 in
theorem b_value_s (X : kX p m c cX12_value 2 s args D ca) (hRf : 0 ≤ R.frames) (hRl : 0 ≤ R.locals) {Q : Int → iST → Prop} (hret : ∀ (v : Int) (u : iST) (H : Heap) (locs : List Loc) (ls : Array Slot) (pc : Nat), inL v → Q v u → kW D ca A h0 ad H0 H locs u → decode cX12_value pc = .ok (.lreturn, 1) → W p l e R s m args below meth c H locs 0 0 Qf (F0 m pc ls [.long (jL v)])) {a0 : Int} (ra0 : inR a0) (hw : kW D ca A h0 ad H0 H locs u) (hl : lv_has ls 2 [(0, .ref h0), (1, .int (jI a0))]) (h : w_value a0 Q u) : W p l e R s m args below meth c H locs 0 0 Qf (F0 m 0 ls []) := by
  have hx := X.1.1
  have hb := X.1.2.1
  unfold w_value at h
  refine lv_aload_n hx hb dX12_value_0 rfl (lv_at hl 0 rfl) ?_
  refine gA 5 27 (by decide) L_5 (fun _ _ => mF_5) rfl X hw dX12_value_1 ?_
  refine lv_aload_n hx hb dX12_value_4 rfl (lv_at hl 0 rfl) ?_
  refine gA 1 14 (by decide) L_1 (fun _ _ => mF_1) rfl X hw dX12_value_5 ?_
  refine lv_iload_n hx hb dX12_value_8 rfl (lv_at hl 1 rfl) ?_
  refine aL 1 2 1 452000 (fun _ _ _ _ => mG_1) (fun _ => rfl) X hw ra0 dX12_value_9 rfl h (fun v1 rv1 h => ?_)
  refine aJ X hw rv1 dX12_value_10 h (fun v2 rv2 h => ?_)
  exact hret _ _ _ _ _ _ rv2 h hw dX12_value_11

end
theorem c_value {l : Launch} {a0 : Int} (ra0 : inR a0) {Q : Int → iST → Prop} {u : iST} (h : w_value a0 Q u) : kML l yX12_value (.code yX12_value cX12_value 2 (some .long) :: wsM) { frames := 0, cells := 0, slots := 0, locals := 0 } [.int (jI a0)] Q u := kML_of rfl (fun _ => Nat.le_of_ble_eq_true rfl) (fun X hRf hRl hret hw hl => b_value_s X hRf hRl hret ra0 hw hl h)

/-! slotOf -/
theorem dX12_slotOf_0 : decode cX12_slotOf 0 = .ok (.aload_n 0, 1) := by decide +kernel
theorem dX12_slotOf_1 : decode cX12_slotOf 1 = .ok (.getfield 8, 3) := by decide +kernel
theorem dX12_slotOf_4 : decode cX12_slotOf 4 = .ok (.iload_n 1, 1) := by decide +kernel
theorem dX12_slotOf_5 : decode cX12_slotOf 5 = .ok (.iaload, 1) := by decide +kernel
theorem dX12_slotOf_6 : decode cX12_slotOf 6 = .ok (.iconst (-1), 1) := by decide +kernel
theorem dX12_slotOf_7 : decode cX12_slotOf 7 = .ok (.if_icmp .ne 22, 3) := by decide +kernel
theorem dX12_slotOf_10 : decode cX12_slotOf 10 = .ok (.aload_n 0, 1) := by decide +kernel
theorem dX12_slotOf_11 : decode cX12_slotOf 11 = .ok (.iload_n 1, 1) := by decide +kernel
theorem dX12_slotOf_12 : decode cX12_slotOf 12 = .ok (.invokevirtual 321, 3) := by decide +kernel
theorem dX12_slotOf_15 : decode cX12_slotOf 15 = .ok (.l2i, 1) := by decide +kernel
theorem dX12_slotOf_16 : decode cX12_slotOf 16 = .ok (.aload_n 0, 1) := by decide +kernel
theorem dX12_slotOf_17 : decode cX12_slotOf 17 = .ok (.iload_n 1, 1) := by decide +kernel
theorem dX12_slotOf_18 : decode cX12_slotOf 18 = .ok (.invokevirtual 321, 3) := by decide +kernel
theorem dX12_slotOf_21 : decode cX12_slotOf 21 = .ok (.bipush 32, 2) := by decide +kernel
theorem dX12_slotOf_23 : decode cX12_slotOf 23 = .ok (.lshr, 1) := by decide +kernel
theorem dX12_slotOf_24 : decode cX12_slotOf 24 = .ok (.l2i, 1) := by decide +kernel
theorem dX12_slotOf_25 : decode cX12_slotOf 25 = .ok (.invokestatic 324, 3) := by decide +kernel
theorem dX12_slotOf_28 : decode cX12_slotOf 28 = .ok (.ireturn, 1) := by decide +kernel
theorem dX12_slotOf_29 : decode cX12_slotOf 29 = .ok (.aload_n 0, 1) := by decide +kernel
theorem dX12_slotOf_30 : decode cX12_slotOf 30 = .ok (.getfield 8, 3) := by decide +kernel
theorem dX12_slotOf_33 : decode cX12_slotOf 33 = .ok (.iload_n 1, 1) := by decide +kernel
theorem dX12_slotOf_34 : decode cX12_slotOf 34 = .ok (.iaload, 1) := by decide +kernel
theorem dX12_slotOf_35 : decode cX12_slotOf 35 = .ok (.bipush (-2), 2) := by decide +kernel
theorem dX12_slotOf_37 : decode cX12_slotOf 37 = .ok (.if_icmp .ne 31, 3) := by decide +kernel
theorem dX12_slotOf_40 : decode cX12_slotOf 40 = .ok (.aload_n 0, 1) := by decide +kernel
theorem dX12_slotOf_41 : decode cX12_slotOf 41 = .ok (.bipush 12, 2) := by decide +kernel
theorem dX12_slotOf_43 : decode cX12_slotOf 43 = .ok (.aload_n 0, 1) := by decide +kernel
theorem dX12_slotOf_44 : decode cX12_slotOf 44 = .ok (.getfield 14, 3) := by decide +kernel
theorem dX12_slotOf_47 : decode cX12_slotOf 47 = .ok (.iload_n 1, 1) := by decide +kernel
theorem dX12_slotOf_48 : decode cX12_slotOf 48 = .ok (.iaload, 1) := by decide +kernel
theorem dX12_slotOf_49 : decode cX12_slotOf 49 = .ok (.imul, 1) := by decide +kernel
theorem dX12_slotOf_50 : decode cX12_slotOf 50 = .ok (.aload_n 0, 1) := by decide +kernel
theorem dX12_slotOf_51 : decode cX12_slotOf 51 = .ok (.getfield 38, 3) := by decide +kernel
theorem dX12_slotOf_54 : decode cX12_slotOf 54 = .ok (.aload_n 0, 1) := by decide +kernel
theorem dX12_slotOf_55 : decode cX12_slotOf 55 = .ok (.getfield 14, 3) := by decide +kernel
theorem dX12_slotOf_58 : decode cX12_slotOf 58 = .ok (.iload_n 1, 1) := by decide +kernel
theorem dX12_slotOf_59 : decode cX12_slotOf 59 = .ok (.iaload, 1) := by decide +kernel
theorem dX12_slotOf_60 : decode cX12_slotOf 60 = .ok (.iaload, 1) := by decide +kernel
theorem dX12_slotOf_61 : decode cX12_slotOf 61 = .ok (.iconst 0, 1) := by decide +kernel
theorem dX12_slotOf_62 : decode cX12_slotOf 62 = .ok (.invokevirtual 328, 3) := by decide +kernel
theorem dX12_slotOf_65 : decode cX12_slotOf 65 = .ok (.goto 18, 3) := by decide +kernel
theorem dX12_slotOf_68 : decode cX12_slotOf 68 = .ok (.aload_n 0, 1) := by decide +kernel
theorem dX12_slotOf_69 : decode cX12_slotOf 69 = .ok (.getfield 8, 3) := by decide +kernel
theorem dX12_slotOf_72 : decode cX12_slotOf 72 = .ok (.iload_n 1, 1) := by decide +kernel
theorem dX12_slotOf_73 : decode cX12_slotOf 73 = .ok (.iaload, 1) := by decide +kernel
theorem dX12_slotOf_74 : decode cX12_slotOf 74 = .ok (.aload_n 0, 1) := by decide +kernel
theorem dX12_slotOf_75 : decode cX12_slotOf 75 = .ok (.getfield 14, 3) := by decide +kernel
theorem dX12_slotOf_78 : decode cX12_slotOf 78 = .ok (.iload_n 1, 1) := by decide +kernel
theorem dX12_slotOf_79 : decode cX12_slotOf 79 = .ok (.iaload, 1) := by decide +kernel
theorem dX12_slotOf_80 : decode cX12_slotOf 80 = .ok (.invokestatic 324, 3) := by decide +kernel
theorem dX12_slotOf_83 : decode cX12_slotOf 83 = .ok (.ireturn, 1) := by decide +kernel

section
variable {p : Program} {l : Launch} {e : Env} {R : Room} {s : State} {m : MethodId} {args : Array Value} {below : List Frame} {meth : Method} {c : Code} {H : Heap} {locs : List Loc} {Qf : State → Prop}
variable {ls : Array Slot} {D : va_G} {ca : Nat → ClassId} {A : Nat → Prop} {h0 : Nat} {ad : Nat → Nat} {H0 : Heap} {u : iST}
def w_slotOf (a0 : Int) (Q : Int → iST → Prop) (u : iST) : Prop :=
  bd a0 452000 (rd (u.2.1 0 a0) (fun v1 => 
  br (v1 ≠ (-1)) (
    bd a0 452000 (rd (u.2.1 0 a0) (fun v2 => 
    br (v2 ≠ (-2)) (
      bd a0 452000 (rd (u.2.1 0 a0) (fun v3 => 
      bd a0 452000 (rd (u.2.1 1 a0) (fun v4 => 
      w_slot v3 v4 (fun v5 u => 
      Q v5 u) u))))) (
      bd a0 452000 (rd (u.2.1 1 a0) (fun v6 => 
      ov (12 * v6) (
      bd a0 452000 (rd (u.2.1 1 a0) (fun v8 => 
      bd v8 21000 (rd (u.2.1 10 v8) (fun v9 => 
      w_spelled (12 * v6) v9 0 (fun v10 u => 
      Q v10 u) u))))))))))) (
    w_value a0 (fun v11 u => 
    rd (wl2i v11) (fun v12 => 
    w_value a0 (fun v13 u => 
    rl (wlshr v13 32) (fun v14 => 
    rd (wl2i v14) (fun v15 => 
    w_slot v12 v15 (fun v16 u => 
    Q v16 u) u))) u)) u)))
set_option maxRecDepth 20000 in
set_option maxHeartbeats 4000000 in
theorem b_slotOf_s (X : kX p m c cX12_slotOf 2 s args D ca) (hRf : 1 ≤ R.frames) (hRl : 25 ≤ R.locals) {Q : Int → iST → Prop} (hret : ∀ (v : Int) (u : iST) (H : Heap) (locs : List Loc) (ls : Array Slot) (pc : Nat), inR v → Q v u → kW D ca A h0 ad H0 H locs u → decode cX12_slotOf pc = .ok (.ireturn, 1) → W p l e R s m args below meth c H locs 0 0 Qf (F0 m pc ls [.int (jI v)])) {a0 : Int} (ra0 : inR a0) (hw : kW D ca A h0 ad H0 H locs u) (hl : lv_has ls 2 [(0, .ref h0), (1, .int (jI a0))]) (h : w_slotOf a0 Q u) : W p l e R s m args below meth c H locs 0 0 Qf (F0 m 0 ls []) := by
  have hx := X.1.1
  have hb := X.1.2.1
  unfold w_slotOf at h
  refine lv_aload_n hx hb dX12_slotOf_0 rfl (lv_at hl 0 rfl) ?_
  refine gA 0 8 (by decide) L_0 (fun _ _ => mF_0) rfl X hw dX12_slotOf_1 ?_
  refine lv_iload_n hx hb dX12_slotOf_4 rfl (lv_at hl 1 rfl) ?_
  refine aL 0 1 0 452000 (fun _ _ _ _ => mG_0) (fun _ => rfl) X hw ra0 dX12_slotOf_5 rfl h (fun v1 rv1 h => ?_)
  refine lv_iconst hx hb dX12_slotOf_6 (v := jI (-1)) rfl ?_
  refine k_icmp_ne hx hb rv1 (by decide) dX12_slotOf_7 (tgt := 29) rfl h (fun h => ?_) (fun h => ?_)
  · refine lv_aload_n hx hb dX12_slotOf_29 rfl (lv_at hl 0 rfl) ?_
    refine gA 0 8 (by decide) L_0 (fun _ _ => mF_0) rfl X hw dX12_slotOf_30 ?_
    refine lv_iload_n hx hb dX12_slotOf_33 rfl (lv_at hl 1 rfl) ?_
    refine aL 0 1 0 452000 (fun _ _ _ _ => mG_0) (fun _ => rfl) X hw ra0 dX12_slotOf_34 rfl h (fun v2 rv2 h => ?_)
    refine lv_bipush hx hb dX12_slotOf_35 (v := jI (-2)) rfl ?_
    refine k_icmp_ne hx hb rv2 (by decide) dX12_slotOf_37 (tgt := 68) rfl h (fun h => ?_) (fun h => ?_)
    · refine lv_aload_n hx hb dX12_slotOf_68 rfl (lv_at hl 0 rfl) ?_
      refine gA 0 8 (by decide) L_0 (fun _ _ => mF_0) rfl X hw dX12_slotOf_69 ?_
      refine lv_iload_n hx hb dX12_slotOf_72 rfl (lv_at hl 1 rfl) ?_
      refine aL 0 1 0 452000 (fun _ _ _ _ => mG_0) (fun _ => rfl) X hw ra0 dX12_slotOf_73 rfl h (fun v3 rv3 h => ?_)
      refine lv_aload_n hx hb dX12_slotOf_74 rfl (lv_at hl 0 rfl) ?_
      refine gA 1 14 (by decide) L_1 (fun _ _ => mF_1) rfl X hw dX12_slotOf_75 ?_
      refine lv_iload_n hx hb dX12_slotOf_78 rfl (lv_at hl 1 rfl) ?_
      refine aL 1 2 1 452000 (fun _ _ _ _ => mG_1) (fun _ => rfl) X hw ra0 dX12_slotOf_79 rfl h (fun v4 rv4 h => ?_)
      refine kcT (n := 2) (c_slot rv3 rv4 h) G_slot E_slot X hw (Nat.le_trans (Nat.le_of_ble_eq_true rfl) hRf) (Nat.le_trans (Nat.le_of_ble_eq_true rfl) hRl) rfl hl.1 (Nat.le_of_ble_eq_true rfl) rfl dX12_slotOf_80 (fun v5 u H locs rv5 h hw => ?_)
      exact hret _ _ _ _ _ _ rv5 h hw dX12_slotOf_83
    · refine lv_aload_n hx hb dX12_slotOf_40 rfl (lv_at hl 0 rfl) ?_
      refine lv_bipush hx hb dX12_slotOf_41 (v := jI 12) rfl ?_
      refine lv_aload_n hx hb dX12_slotOf_43 rfl (lv_at hl 0 rfl) ?_
      refine gA 1 14 (by decide) L_1 (fun _ _ => mF_1) rfl X hw dX12_slotOf_44 ?_
      refine lv_iload_n hx hb dX12_slotOf_47 rfl (lv_at hl 1 rfl) ?_
      refine aL 1 2 1 452000 (fun _ _ _ _ => mG_1) (fun _ => rfl) X hw ra0 dX12_slotOf_48 rfl h (fun v6 rv6 h => ?_)
      refine k_imul hx hb dX12_slotOf_49 h (fun r7 h => ?_)
      refine lv_aload_n hx hb dX12_slotOf_50 rfl (lv_at hl 0 rfl) ?_
      refine gA 10 38 (by decide) L_10 (fun _ _ => mF_10) rfl X hw dX12_slotOf_51 ?_
      refine lv_aload_n hx hb dX12_slotOf_54 rfl (lv_at hl 0 rfl) ?_
      refine gA 1 14 (by decide) L_1 (fun _ _ => mF_1) rfl X hw dX12_slotOf_55 ?_
      refine lv_iload_n hx hb dX12_slotOf_58 rfl (lv_at hl 1 rfl) ?_
      refine aL 1 2 1 452000 (fun _ _ _ _ => mG_1) (fun _ => rfl) X hw ra0 dX12_slotOf_59 rfl h (fun v8 rv8 h => ?_)
      refine aL 10 9 8 21000 (fun _ _ _ _ => mG_10) (fun _ => rfl) X hw rv8 dX12_slotOf_60 rfl h (fun v9 rv9 h => ?_)
      refine lv_iconst hx hb dX12_slotOf_61 (v := jI 0) rfl ?_
      refine kcI (n := 3) (c_spelled r7 rv9 (by decide) h) G_spelled E_spelled X hw (Nat.le_trans (Nat.le_of_ble_eq_true rfl) hRf) (Nat.le_trans (Nat.le_of_ble_eq_true rfl) hRl) rfl hl.1 (Nat.le_of_ble_eq_true rfl) rfl dX12_slotOf_62 (fun v10 u H locs rv10 h hw => ?_)
      refine lv_goto hx hb dX12_slotOf_65 (tgt := 83) rfl ?_
      exact hret _ _ _ _ _ _ rv10 h hw dX12_slotOf_83
  · refine lv_aload_n hx hb dX12_slotOf_10 rfl (lv_at hl 0 rfl) ?_
    refine lv_iload_n hx hb dX12_slotOf_11 rfl (lv_at hl 1 rfl) ?_
    refine kcL (n := 1) (c_value ra0 h) G_value E_value X hw (Nat.le_trans (Nat.le_of_ble_eq_true rfl) hRf) (Nat.le_trans (Nat.le_of_ble_eq_true rfl) hRl) rfl hl.1 (Nat.le_of_ble_eq_true rfl) rfl dX12_slotOf_12 (fun v11 u H locs rv11 h hw => ?_)
    refine k_l2i hx hb dX12_slotOf_15 h (fun v12 rv12 h => ?_)
    refine lv_aload_n hx hb dX12_slotOf_16 rfl (lv_at hl 0 rfl) ?_
    refine lv_iload_n hx hb dX12_slotOf_17 rfl (lv_at hl 1 rfl) ?_
    refine kcL (n := 1) (c_value ra0 h) G_value E_value X hw (Nat.le_trans (Nat.le_of_ble_eq_true rfl) hRf) (Nat.le_trans (Nat.le_of_ble_eq_true rfl) hRl) rfl hl.1 (Nat.le_of_ble_eq_true rfl) rfl dX12_slotOf_18 (fun v13 u H locs rv13 h hw => ?_)
    refine lv_bipush hx hb dX12_slotOf_21 (v := jI 32) rfl ?_
    refine k_lshr hx hb dX12_slotOf_23 h (fun v14 rv14 h => ?_)
    refine k_l2i hx hb dX12_slotOf_24 h (fun v15 rv15 h => ?_)
    refine kcT (n := 2) (c_slot rv12 rv15 h) G_slot E_slot X hw (Nat.le_trans (Nat.le_of_ble_eq_true rfl) hRf) (Nat.le_trans (Nat.le_of_ble_eq_true rfl) hRl) rfl hl.1 (Nat.le_of_ble_eq_true rfl) rfl dX12_slotOf_25 (fun v16 u H locs rv16 h hw => ?_)
    exact hret _ _ _ _ _ _ rv16 h hw dX12_slotOf_28

end
theorem c_slotOf {l : Launch} {a0 : Int} (ra0 : inR a0) {Q : Int → iST → Prop} {u : iST} (h : w_slotOf a0 Q u) : kMI l yX12_slotOf (.code yX12_slotOf cX12_slotOf 2 (some .int) :: wsM) { frames := 1, cells := 0, slots := 0, locals := 25 } [.int (jI a0)] Q u := kMI_of rfl (fun _ => Nat.le_of_ble_eq_true rfl) (fun X hRf hRl hret hw hl => b_slotOf_s X hRf hRl hret ra0 hw hl h)

/-! pair -/
theorem dX12_pair_0 : decode cX12_pair 0 = .ok (.iload_n 1, 1) := by decide +kernel
theorem dX12_pair_1 : decode cX12_pair 1 = .ok (.iload_n 2, 1) := by decide +kernel
theorem dX12_pair_2 : decode cX12_pair 2 = .ok (.invokestatic 324, 3) := by decide +kernel
theorem dX12_pair_5 : decode cX12_pair 5 = .ok (.istore_n 3, 1) := by decide +kernel
theorem dX12_pair_6 : decode cX12_pair 6 = .ok (.aload_n 0, 1) := by decide +kernel
theorem dX12_pair_7 : decode cX12_pair 7 = .ok (.getfield 31, 3) := by decide +kernel
theorem dX12_pair_10 : decode cX12_pair 10 = .ok (.iload_n 3, 1) := by decide +kernel
theorem dX12_pair_11 : decode cX12_pair 11 = .ok (.iaload, 1) := by decide +kernel
theorem dX12_pair_12 : decode cX12_pair 12 = .ok (.istore 4, 2) := by decide +kernel
theorem dX12_pair_14 : decode cX12_pair 14 = .ok (.iload 4, 2) := by decide +kernel
theorem dX12_pair_16 : decode cX12_pair 16 = .ok (.iconst (-1), 1) := by decide +kernel
theorem dX12_pair_17 : decode cX12_pair 17 = .ok (.if_icmp .eq 40, 3) := by decide +kernel
theorem dX12_pair_20 : decode cX12_pair 20 = .ok (.aload_n 0, 1) := by decide +kernel
theorem dX12_pair_21 : decode cX12_pair 21 = .ok (.getfield 8, 3) := by decide +kernel
theorem dX12_pair_24 : decode cX12_pair 24 = .ok (.iload 4, 2) := by decide +kernel
theorem dX12_pair_26 : decode cX12_pair 26 = .ok (.iaload, 1) := by decide +kernel
theorem dX12_pair_27 : decode cX12_pair 27 = .ok (.iload_n 1, 1) := by decide +kernel
theorem dX12_pair_28 : decode cX12_pair 28 = .ok (.if_icmp .ne 17, 3) := by decide +kernel
theorem dX12_pair_31 : decode cX12_pair 31 = .ok (.aload_n 0, 1) := by decide +kernel
theorem dX12_pair_32 : decode cX12_pair 32 = .ok (.getfield 14, 3) := by decide +kernel
theorem dX12_pair_35 : decode cX12_pair 35 = .ok (.iload 4, 2) := by decide +kernel
theorem dX12_pair_37 : decode cX12_pair 37 = .ok (.iaload, 1) := by decide +kernel
theorem dX12_pair_38 : decode cX12_pair 38 = .ok (.iload_n 2, 1) := by decide +kernel
theorem dX12_pair_39 : decode cX12_pair 39 = .ok (.if_icmp .ne 6, 3) := by decide +kernel
theorem dX12_pair_42 : decode cX12_pair 42 = .ok (.iload 4, 2) := by decide +kernel
theorem dX12_pair_44 : decode cX12_pair 44 = .ok (.ireturn, 1) := by decide +kernel
theorem dX12_pair_45 : decode cX12_pair 45 = .ok (.aload_n 0, 1) := by decide +kernel
theorem dX12_pair_46 : decode cX12_pair 46 = .ok (.getfield 17, 3) := by decide +kernel
theorem dX12_pair_49 : decode cX12_pair 49 = .ok (.iload 4, 2) := by decide +kernel
theorem dX12_pair_51 : decode cX12_pair 51 = .ok (.iaload, 1) := by decide +kernel
theorem dX12_pair_52 : decode cX12_pair 52 = .ok (.istore 4, 2) := by decide +kernel
theorem dX12_pair_54 : decode cX12_pair 54 = .ok (.goto (-40), 3) := by decide +kernel
theorem dX12_pair_57 : decode cX12_pair 57 = .ok (.aload_n 0, 1) := by decide +kernel
theorem dX12_pair_58 : decode cX12_pair 58 = .ok (.iload_n 1, 1) := by decide +kernel
theorem dX12_pair_59 : decode cX12_pair 59 = .ok (.iload_n 2, 1) := by decide +kernel
theorem dX12_pair_60 : decode cX12_pair 60 = .ok (.iload_n 3, 1) := by decide +kernel
theorem dX12_pair_61 : decode cX12_pair 61 = .ok (.invokevirtual 335, 3) := by decide +kernel
theorem dX12_pair_64 : decode cX12_pair 64 = .ok (.ireturn, 1) := by decide +kernel

section
variable {p : Program} {l : Launch} {e : Env} {R : Room} {s : State} {m : MethodId} {args : Array Value} {below : List Frame} {meth : Method} {c : Code} {H : Heap} {locs : List Loc} {Qf : State → Prop}
variable {ls : Array Slot} {D : va_G} {ca : Nat → ClassId} {A : Nat → Prop} {h0 : Nat} {ad : Nat → Nat} {H0 : Heap} {u : iST}
def w_pair_45 (R14 : Int → Int → Int → Int → iST → Prop) (Q : Int → iST → Prop) (x1 : Int) (x2 : Int) (x3 : Int) (x4 : Int) (u : iST) : Prop :=
  bd x4 452000 (rd (u.2.1 2 x4) (fun v5 => 
  R14 x1 x2 x3 v5 u))
set_option maxRecDepth 20000 in
set_option maxHeartbeats 4000000 in
theorem b_pair_45 (X : kX p m c cX12_pair 5 s args D ca) (hRf : 1 ≤ R.frames) (hRl : 23 ≤ R.locals) {Q : Int → iST → Prop} (hret : ∀ (v : Int) (u : iST) (H : Heap) (locs : List Loc) (ls : Array Slot) (pc : Nat), inR v → Q v u → kW D ca A h0 ad H0 H locs u → decode cX12_pair pc = .ok (.ireturn, 1) → W p l e R s m args below meth c H locs 0 0 Qf (F0 m pc ls [.int (jI v)])) {R14 : Int → Int → Int → Int → iST → Prop} (hR14 : ∀ (x1 : Int) (x2 : Int) (x3 : Int) (x4 : Int) (u : iST) (H : Heap) (locs : List Loc) (ls : Array Slot), inR x1 → inR x2 → inR x3 → inR x4 → kW D ca A h0 ad H0 H locs u → lv_has ls 5 [(0, .ref h0), (1, .int (jI x1)), (2, .int (jI x2)), (3, .int (jI x3)), (4, .int (jI x4))] → R14 x1 x2 x3 x4 u → W p l e R s m args below meth c H locs 0 0 Qf (F0 m 14 ls [])) {x1 x2 x3 x4 : Int} (rx1 : inR x1) (rx2 : inR x2) (rx3 : inR x3) (rx4 : inR x4) (hw : kW D ca A h0 ad H0 H locs u) (hl : lv_has ls 5 [(0, .ref h0), (1, .int (jI x1)), (2, .int (jI x2)), (3, .int (jI x3)), (4, .int (jI x4))]) (h : w_pair_45 R14 Q x1 x2 x3 x4 u) : W p l e R s m args below meth c H locs 0 0 Qf (F0 m 45 ls []) := by
  have hx := X.1.1
  have hb := X.1.2.1
  unfold w_pair_45 at h
  refine lv_aload_n hx hb dX12_pair_45 rfl (lv_at hl 0 rfl) ?_
  refine gA 2 17 (by decide) L_2 (fun _ _ => mF_2) rfl X hw dX12_pair_46 ?_
  refine lv_iload hx hb dX12_pair_49 (lv_at hl 4 rfl) ?_
  refine aL 2 3 2 452000 (fun _ _ _ _ => mG_2) (fun _ => rfl) X hw rx4 dX12_pair_51 rfl h (fun v5 rv5 h => ?_)
  refine lv_istore hx hb dX12_pair_52 hl (by decide) rfl (fun ls hl => ?_)
  have hl : lv_has ls 5 [(4, .int (jI v5)), (0, .ref (h0)), (1, .int (jI x1)), (2, .int (jI x2)), (3, .int (jI x3))] := hl
  refine lv_goto hx hb dX12_pair_54 (tgt := 14) rfl ?_
  exact hR14 _ _ _ _ _ H locs ls rx1 rx2 rx3 rv5 hw (lv_sub hl [1, 2, 3, 4, 0] rfl) h

def w_pair_14b (R14 : Int → Int → Int → Int → iST → Prop) (Q : Int → iST → Prop) (x1 : Int) (x2 : Int) (x3 : Int) (x4 : Int) (u : iST) : Prop :=
  br (x4 = (-1)) (
    w_added x1 x2 x3 (fun v3 u => 
    Q v3 u) u) (
    bd x4 452000 (rd (u.2.1 0 x4) (fun v4 => 
    br (v4 ≠ x1) (
      w_pair_45 R14 Q x1 x2 x3 x4 u) (
      bd x4 452000 (rd (u.2.1 1 x4) (fun v6 => 
      br (v6 ≠ x2) (
        w_pair_45 R14 Q x1 x2 x3 x4 u) (
        Q x4 u)))))))
def w_pair_14 (Q : Int → iST → Prop) (x1 : Int) (x2 : Int) (x3 : Int) (x4 : Int) (u : iST) : Prop := ∀ R14 : Int → Int → Int → Int → iST → Prop, (∀ (x1 : Int) (x2 : Int) (x3 : Int) (x4 : Int) (u : iST), w_pair_14b R14 Q x1 x2 x3 x4 u → R14 x1 x2 x3 x4 u) → R14 x1 x2 x3 x4 u
set_option maxRecDepth 20000 in
set_option maxHeartbeats 4000000 in
theorem b_pair_14 (X : kX p m c cX12_pair 5 s args D ca) (hRf : 1 ≤ R.frames) (hRl : 23 ≤ R.locals) {Q : Int → iST → Prop} (hret : ∀ (v : Int) (u : iST) (H : Heap) (locs : List Loc) (ls : Array Slot) (pc : Nat), inR v → Q v u → kW D ca A h0 ad H0 H locs u → decode cX12_pair pc = .ok (.ireturn, 1) → W p l e R s m args below meth c H locs 0 0 Qf (F0 m pc ls [.int (jI v)])) {x1 x2 x3 x4 : Int} (rx1 : inR x1) (rx2 : inR x2) (rx3 : inR x3) (rx4 : inR x4) (hw : kW D ca A h0 ad H0 H locs u) (hl : lv_has ls 5 [(0, .ref h0), (1, .int (jI x1)), (2, .int (jI x2)), (3, .int (jI x3)), (4, .int (jI x4))]) (h : w_pair_14 Q x1 x2 x3 x4 u) : W p l e R s m args below meth c H locs 0 0 Qf (F0 m 14 ls []) := by
  refine h (fun x1 x2 x3 x4 u => ∀ (H : Heap) (locs : List Loc) (ls : Array Slot), inR x1 → inR x2 → inR x3 → inR x4 → kW D ca A h0 ad H0 H locs u → lv_has ls 5 [(0, .ref h0), (1, .int (jI x1)), (2, .int (jI x2)), (3, .int (jI x3)), (4, .int (jI x4))] → W p l e R s m args below meth c H locs 0 0 Qf (F0 m 14 ls [])) ?_ H locs ls rx1 rx2 rx3 rx4 hw hl
  clear h hl hw rx1 rx2 rx3 rx4
  intro x1 x2 x3 x4 u h H locs ls rx1 rx2 rx3 rx4 hw hl
  have hR14 : ∀ (x1 : Int) (x2 : Int) (x3 : Int) (x4 : Int) (u : iST) (H : Heap) (locs : List Loc) (ls : Array Slot), inR x1 → inR x2 → inR x3 → inR x4 → kW D ca A h0 ad H0 H locs u → lv_has ls 5 [(0, .ref h0), (1, .int (jI x1)), (2, .int (jI x2)), (3, .int (jI x3)), (4, .int (jI x4))] → (fun (x1 : Int) (x2 : Int) (x3 : Int) (x4 : Int) u => ∀ (H : Heap) (locs : List Loc) (ls : Array Slot), inR x1 → inR x2 → inR x3 → inR x4 → kW D ca A h0 ad H0 H locs u → lv_has ls 5 [(0, .ref h0), (1, .int (jI x1)), (2, .int (jI x2)), (3, .int (jI x3)), (4, .int (jI x4))] → W p l e R s m args below meth c H locs 0 0 Qf (F0 m 14 ls [])) x1 x2 x3 x4 u → W p l e R s m args below meth c H locs 0 0 Qf (F0 m 14 ls []) := fun x1 x2 x3 x4 u H locs ls rx1 rx2 rx3 rx4 hw hl h => h H locs ls rx1 rx2 rx3 rx4 hw hl
  have hx := X.1.1
  have hb := X.1.2.1
  unfold w_pair_14b at h
  refine lv_iload hx hb dX12_pair_14 (lv_at hl 4 rfl) ?_
  refine lv_iconst hx hb dX12_pair_16 (v := jI (-1)) rfl ?_
  refine k_icmp_eq hx hb rx4 (by decide) dX12_pair_17 (tgt := 57) rfl h (fun h => ?_) (fun h => ?_)
  · refine lv_aload_n hx hb dX12_pair_57 rfl (lv_at hl 0 rfl) ?_
    refine lv_iload_n hx hb dX12_pair_58 rfl (lv_at hl 1 rfl) ?_
    refine lv_iload_n hx hb dX12_pair_59 rfl (lv_at hl 2 rfl) ?_
    refine lv_iload_n hx hb dX12_pair_60 rfl (lv_at hl 3 rfl) ?_
    refine kcI (n := 3) (c_added rx1 rx2 rx3 h) G_added E_added X hw (Nat.le_trans (Nat.le_of_ble_eq_true rfl) hRf) (Nat.le_trans (Nat.le_of_ble_eq_true rfl) hRl) rfl hl.1 (Nat.le_of_ble_eq_true rfl) rfl dX12_pair_61 (fun v3 u H locs rv3 h hw => ?_)
    exact hret _ _ _ _ _ _ rv3 h hw dX12_pair_64
  · refine lv_aload_n hx hb dX12_pair_20 rfl (lv_at hl 0 rfl) ?_
    refine gA 0 8 (by decide) L_0 (fun _ _ => mF_0) rfl X hw dX12_pair_21 ?_
    refine lv_iload hx hb dX12_pair_24 (lv_at hl 4 rfl) ?_
    refine aL 0 1 0 452000 (fun _ _ _ _ => mG_0) (fun _ => rfl) X hw rx4 dX12_pair_26 rfl h (fun v4 rv4 h => ?_)
    refine lv_iload_n hx hb dX12_pair_27 rfl (lv_at hl 1 rfl) ?_
    refine k_icmp_ne hx hb rv4 rx1 dX12_pair_28 (tgt := 45) rfl h (fun h => ?_) (fun h => ?_)
    · exact b_pair_45 X hRf hRl hret hR14 rx1 rx2 rx3 rx4 hw hl h
    · refine lv_aload_n hx hb dX12_pair_31 rfl (lv_at hl 0 rfl) ?_
      refine gA 1 14 (by decide) L_1 (fun _ _ => mF_1) rfl X hw dX12_pair_32 ?_
      refine lv_iload hx hb dX12_pair_35 (lv_at hl 4 rfl) ?_
      refine aL 1 2 1 452000 (fun _ _ _ _ => mG_1) (fun _ => rfl) X hw rx4 dX12_pair_37 rfl h (fun v6 rv6 h => ?_)
      refine lv_iload_n hx hb dX12_pair_38 rfl (lv_at hl 2 rfl) ?_
      refine k_icmp_ne hx hb rv6 rx2 dX12_pair_39 (tgt := 45) rfl h (fun h => ?_) (fun h => ?_)
      · exact b_pair_45 X hRf hRl hret hR14 rx1 rx2 rx3 rx4 hw hl h
      · refine lv_iload hx hb dX12_pair_42 (lv_at hl 4 rfl) ?_
        exact hret _ _ _ _ _ _ rx4 h hw dX12_pair_44

def w_pair (a0 : Int) (a1 : Int) (Q : Int → iST → Prop) (u : iST) : Prop :=
  w_slot a0 a1 (fun v1 u => 
  bd v1 8192 (rd (u.2.1 7 v1) (fun v2 => 
  w_pair_14 Q a0 a1 v1 v2 u))) u
set_option maxRecDepth 20000 in
set_option maxHeartbeats 4000000 in
theorem b_pair_s (X : kX p m c cX12_pair 5 s args D ca) (hRf : 1 ≤ R.frames) (hRl : 23 ≤ R.locals) {Q : Int → iST → Prop} (hret : ∀ (v : Int) (u : iST) (H : Heap) (locs : List Loc) (ls : Array Slot) (pc : Nat), inR v → Q v u → kW D ca A h0 ad H0 H locs u → decode cX12_pair pc = .ok (.ireturn, 1) → W p l e R s m args below meth c H locs 0 0 Qf (F0 m pc ls [.int (jI v)])) {a0 a1 : Int} (ra0 : inR a0) (ra1 : inR a1) (hw : kW D ca A h0 ad H0 H locs u) (hl : lv_has ls 5 [(0, .ref h0), (1, .int (jI a0)), (2, .int (jI a1))]) (h : w_pair a0 a1 Q u) : W p l e R s m args below meth c H locs 0 0 Qf (F0 m 0 ls []) := by
  have hx := X.1.1
  have hb := X.1.2.1
  unfold w_pair at h
  refine lv_iload_n hx hb dX12_pair_0 rfl (lv_at hl 1 rfl) ?_
  refine lv_iload_n hx hb dX12_pair_1 rfl (lv_at hl 2 rfl) ?_
  refine kcT (n := 2) (c_slot ra0 ra1 h) G_slot E_slot X hw (Nat.le_trans (Nat.le_of_ble_eq_true rfl) hRf) (Nat.le_trans (Nat.le_of_ble_eq_true rfl) hRl) rfl hl.1 (Nat.le_of_ble_eq_true rfl) rfl dX12_pair_2 (fun v1 u H locs rv1 h hw => ?_)
  refine lv_istore_n hx hb dX12_pair_5 rfl hl (by decide) rfl (fun ls hl => ?_)
  have hl : lv_has ls 5 [(3, .int (jI v1)), (0, .ref (h0)), (1, .int (jI a0)), (2, .int (jI a1))] := hl
  refine lv_aload_n hx hb dX12_pair_6 rfl (lv_at hl 1 rfl) ?_
  refine gA 7 31 (by decide) L_7 (fun _ _ => mF_7) rfl X hw dX12_pair_7 ?_
  refine lv_iload_n hx hb dX12_pair_10 rfl (lv_at hl 0 rfl) ?_
  refine aL 7 7 6 8192 (fun _ _ _ _ => mG_7) (fun _ => rfl) X hw rv1 dX12_pair_11 rfl h (fun v2 rv2 h => ?_)
  refine lv_istore hx hb dX12_pair_12 hl (by decide) rfl (fun ls hl => ?_)
  have hl : lv_has ls 5 [(4, .int (jI v2)), (3, .int (jI v1)), (0, .ref (h0)), (1, .int (jI a0)), (2, .int (jI a1))] := hl
  exact b_pair_14 X hRf hRl hret ra0 ra1 rv1 rv2 hw (lv_sub hl [2, 3, 4, 1, 0] rfl) h

end
theorem c_pair {l : Launch} {a0 : Int} {a1 : Int} (ra0 : inR a0) (ra1 : inR a1) {Q : Int → iST → Prop} {u : iST} (h : w_pair a0 a1 Q u) : kMI l yX12_pair (.code yX12_pair cX12_pair 5 (some .int) :: wsM) { frames := 1, cells := 0, slots := 0, locals := 23 } [.int (jI a0), .int (jI a1)] Q u := kMI_of rfl (fun _ => Nat.le_of_ble_eq_true rfl) (fun X hRf hRl hret hw hl => b_pair_s X hRf hRl hret ra0 ra1 hw hl h)

/-! natural -/
theorem dX12_natural_0 : decode cX12_natural 0 = .ok (.lload_n 1, 1) := by decide +kernel
theorem dX12_natural_1 : decode cX12_natural 1 = .ok (.l2i, 1) := by decide +kernel
theorem dX12_natural_2 : decode cX12_natural 2 = .ok (.lload_n 1, 1) := by decide +kernel
theorem dX12_natural_3 : decode cX12_natural 3 = .ok (.bipush 32, 2) := by decide +kernel
theorem dX12_natural_5 : decode cX12_natural 5 = .ok (.lshr, 1) := by decide +kernel
theorem dX12_natural_6 : decode cX12_natural 6 = .ok (.l2i, 1) := by decide +kernel
theorem dX12_natural_7 : decode cX12_natural 7 = .ok (.invokestatic 324, 3) := by decide +kernel
theorem dX12_natural_10 : decode cX12_natural 10 = .ok (.istore_n 3, 1) := by decide +kernel
theorem dX12_natural_11 : decode cX12_natural 11 = .ok (.aload_n 0, 1) := by decide +kernel
theorem dX12_natural_12 : decode cX12_natural 12 = .ok (.getfield 31, 3) := by decide +kernel
theorem dX12_natural_15 : decode cX12_natural 15 = .ok (.iload_n 3, 1) := by decide +kernel
theorem dX12_natural_16 : decode cX12_natural 16 = .ok (.iaload, 1) := by decide +kernel
theorem dX12_natural_17 : decode cX12_natural 17 = .ok (.istore 4, 2) := by decide +kernel
theorem dX12_natural_19 : decode cX12_natural 19 = .ok (.iload 4, 2) := by decide +kernel
theorem dX12_natural_21 : decode cX12_natural 21 = .ok (.iconst (-1), 1) := by decide +kernel
theorem dX12_natural_22 : decode cX12_natural 22 = .ok (.if_icmp .eq 40, 3) := by decide +kernel
theorem dX12_natural_25 : decode cX12_natural 25 = .ok (.aload_n 0, 1) := by decide +kernel
theorem dX12_natural_26 : decode cX12_natural 26 = .ok (.getfield 8, 3) := by decide +kernel
theorem dX12_natural_29 : decode cX12_natural 29 = .ok (.iload 4, 2) := by decide +kernel
theorem dX12_natural_31 : decode cX12_natural 31 = .ok (.iaload, 1) := by decide +kernel
theorem dX12_natural_32 : decode cX12_natural 32 = .ok (.iconst (-1), 1) := by decide +kernel
theorem dX12_natural_33 : decode cX12_natural 33 = .ok (.if_icmp .ne 17, 3) := by decide +kernel
theorem dX12_natural_36 : decode cX12_natural 36 = .ok (.aload_n 0, 1) := by decide +kernel
theorem dX12_natural_37 : decode cX12_natural 37 = .ok (.iload 4, 2) := by decide +kernel
theorem dX12_natural_39 : decode cX12_natural 39 = .ok (.invokevirtual 321, 3) := by decide +kernel
theorem dX12_natural_42 : decode cX12_natural 42 = .ok (.lload_n 1, 1) := by decide +kernel
theorem dX12_natural_43 : decode cX12_natural 43 = .ok (.lcmp, 1) := by decide +kernel
theorem dX12_natural_44 : decode cX12_natural 44 = .ok (.ifCond .ne 6, 3) := by decide +kernel
theorem dX12_natural_47 : decode cX12_natural 47 = .ok (.iload 4, 2) := by decide +kernel
theorem dX12_natural_49 : decode cX12_natural 49 = .ok (.ireturn, 1) := by decide +kernel
theorem dX12_natural_50 : decode cX12_natural 50 = .ok (.aload_n 0, 1) := by decide +kernel
theorem dX12_natural_51 : decode cX12_natural 51 = .ok (.getfield 17, 3) := by decide +kernel
theorem dX12_natural_54 : decode cX12_natural 54 = .ok (.iload 4, 2) := by decide +kernel
theorem dX12_natural_56 : decode cX12_natural 56 = .ok (.iaload, 1) := by decide +kernel
theorem dX12_natural_57 : decode cX12_natural 57 = .ok (.istore 4, 2) := by decide +kernel
theorem dX12_natural_59 : decode cX12_natural 59 = .ok (.goto (-40), 3) := by decide +kernel
theorem dX12_natural_62 : decode cX12_natural 62 = .ok (.aload_n 0, 1) := by decide +kernel
theorem dX12_natural_63 : decode cX12_natural 63 = .ok (.getfield 27, 3) := by decide +kernel
theorem dX12_natural_66 : decode cX12_natural 66 = .ok (.aload_n 0, 1) := by decide +kernel
theorem dX12_natural_67 : decode cX12_natural 67 = .ok (.getfield 339, 3) := by decide +kernel
theorem dX12_natural_70 : decode cX12_natural 70 = .ok (.lload_n 1, 1) := by decide +kernel
theorem dX12_natural_71 : decode cX12_natural 71 = .ok (.lastore, 1) := by decide +kernel
theorem dX12_natural_72 : decode cX12_natural 72 = .ok (.aload_n 0, 1) := by decide +kernel
theorem dX12_natural_73 : decode cX12_natural 73 = .ok (.dup, 1) := by decide +kernel
theorem dX12_natural_74 : decode cX12_natural 74 = .ok (.getfield 339, 3) := by decide +kernel
theorem dX12_natural_77 : decode cX12_natural 77 = .ok (.iconst 1, 1) := by decide +kernel
theorem dX12_natural_78 : decode cX12_natural 78 = .ok (.iadd, 1) := by decide +kernel
theorem dX12_natural_79 : decode cX12_natural 79 = .ok (.putfield 339, 3) := by decide +kernel
theorem dX12_natural_82 : decode cX12_natural 82 = .ok (.aload_n 0, 1) := by decide +kernel
theorem dX12_natural_83 : decode cX12_natural 83 = .ok (.iconst (-1), 1) := by decide +kernel
theorem dX12_natural_84 : decode cX12_natural 84 = .ok (.aload_n 0, 1) := by decide +kernel
theorem dX12_natural_85 : decode cX12_natural 85 = .ok (.getfield 339, 3) := by decide +kernel
theorem dX12_natural_88 : decode cX12_natural 88 = .ok (.iconst 1, 1) := by decide +kernel
theorem dX12_natural_89 : decode cX12_natural 89 = .ok (.isub, 1) := by decide +kernel
theorem dX12_natural_90 : decode cX12_natural 90 = .ok (.iload_n 3, 1) := by decide +kernel
theorem dX12_natural_91 : decode cX12_natural 91 = .ok (.invokevirtual 335, 3) := by decide +kernel
theorem dX12_natural_94 : decode cX12_natural 94 = .ok (.ireturn, 1) := by decide +kernel

section
variable {p : Program} {l : Launch} {e : Env} {R : Room} {s : State} {m : MethodId} {args : Array Value} {below : List Frame} {meth : Method} {c : Code} {H : Heap} {locs : List Loc} {Qf : State → Prop}
variable {ls : Array Slot} {D : va_G} {ca : Nat → ClassId} {A : Nat → Prop} {h0 : Nat} {ad : Nat → Nat} {H0 : Heap} {u : iST}
def w_natural_50 (R19 : Int → Int → Int → iST → Prop) (Q : Int → iST → Prop) (x1 : Int) (x3 : Int) (x4 : Int) (u : iST) : Prop :=
  bd x4 452000 (rd (u.2.1 2 x4) (fun v13 => 
  R19 x1 x3 v13 u))
set_option maxRecDepth 20000 in
set_option maxHeartbeats 4000000 in
theorem b_natural_50 (X : kX p m c cX12_natural 5 s args D ca) (hRf : 1 ≤ R.frames) (hRl : 23 ≤ R.locals) {Q : Int → iST → Prop} (hret : ∀ (v : Int) (u : iST) (H : Heap) (locs : List Loc) (ls : Array Slot) (pc : Nat), inR v → Q v u → kW D ca A h0 ad H0 H locs u → decode cX12_natural pc = .ok (.ireturn, 1) → W p l e R s m args below meth c H locs 0 0 Qf (F0 m pc ls [.int (jI v)])) {R19 : Int → Int → Int → iST → Prop} (hR19 : ∀ (x1 : Int) (x3 : Int) (x4 : Int) (u : iST) (H : Heap) (locs : List Loc) (ls : Array Slot), inL x1 → inR x3 → inR x4 → kW D ca A h0 ad H0 H locs u → lv_has ls 5 [(0, .ref h0), (1, .long (jL x1)), (3, .int (jI x3)), (4, .int (jI x4))] → R19 x1 x3 x4 u → W p l e R s m args below meth c H locs 0 0 Qf (F0 m 19 ls [])) {x1 x3 x4 : Int} (rx1 : inL x1) (rx3 : inR x3) (rx4 : inR x4) (hw : kW D ca A h0 ad H0 H locs u) (hl : lv_has ls 5 [(0, .ref h0), (1, .long (jL x1)), (3, .int (jI x3)), (4, .int (jI x4))]) (h : w_natural_50 R19 Q x1 x3 x4 u) : W p l e R s m args below meth c H locs 0 0 Qf (F0 m 50 ls []) := by
  have hx := X.1.1
  have hb := X.1.2.1
  unfold w_natural_50 at h
  refine lv_aload_n hx hb dX12_natural_50 rfl (lv_at hl 0 rfl) ?_
  refine gA 2 17 (by decide) L_2 (fun _ _ => mF_2) rfl X hw dX12_natural_51 ?_
  refine lv_iload hx hb dX12_natural_54 (lv_at hl 3 rfl) ?_
  refine aL 2 3 2 452000 (fun _ _ _ _ => mG_2) (fun _ => rfl) X hw rx4 dX12_natural_56 rfl h (fun v13 rv13 h => ?_)
  refine lv_istore hx hb dX12_natural_57 hl (by decide) rfl (fun ls hl => ?_)
  have hl : lv_has ls 5 [(4, .int (jI v13)), (0, .ref (h0)), (1, .long (jL x1)), (3, .int (jI x3))] := hl
  refine lv_goto hx hb dX12_natural_59 (tgt := 19) rfl ?_
  exact hR19 _ _ _ _ H locs ls rx1 rx3 rv13 hw (lv_sub hl [1, 2, 3, 0] rfl) h

def w_natural_19b (R19 : Int → Int → Int → iST → Prop) (Q : Int → iST → Prop) (x1 : Int) (x3 : Int) (x4 : Int) (u : iST) : Prop :=
  br (x4 = (-1)) (
    rd (u.1 6) (fun v6 => 
    bd v6 40000 (sw (iL u v6 x1) (fun u => 
    rd (u.1 6) (fun v7 => 
    ov (v7 + 1) (
    sw (iI u 6 (v7 + 1)) (fun u => 
    rd (u.1 6) (fun v9 => 
    ov (v9 - 1) (
    w_added (-1) (v9 - 1) x3 (fun v11 u => 
    Q v11 u) u))))))))) (
    bd x4 452000 (rd (u.2.1 0 x4) (fun v12 => 
    br (v12 ≠ (-1)) (
      w_natural_50 R19 Q x1 x3 x4 u) (
      w_value x4 (fun v14 u => 
      br (v14 ≠ x1) (
        w_natural_50 R19 Q x1 x3 x4 u) (
        Q x4 u)) u))))
def w_natural_19 (Q : Int → iST → Prop) (x1 : Int) (x3 : Int) (x4 : Int) (u : iST) : Prop := ∀ R19 : Int → Int → Int → iST → Prop, (∀ (x1 : Int) (x3 : Int) (x4 : Int) (u : iST), w_natural_19b R19 Q x1 x3 x4 u → R19 x1 x3 x4 u) → R19 x1 x3 x4 u
set_option maxRecDepth 20000 in
set_option maxHeartbeats 4000000 in
theorem b_natural_19 (X : kX p m c cX12_natural 5 s args D ca) (hRf : 1 ≤ R.frames) (hRl : 23 ≤ R.locals) {Q : Int → iST → Prop} (hret : ∀ (v : Int) (u : iST) (H : Heap) (locs : List Loc) (ls : Array Slot) (pc : Nat), inR v → Q v u → kW D ca A h0 ad H0 H locs u → decode cX12_natural pc = .ok (.ireturn, 1) → W p l e R s m args below meth c H locs 0 0 Qf (F0 m pc ls [.int (jI v)])) {x1 x3 x4 : Int} (rx1 : inL x1) (rx3 : inR x3) (rx4 : inR x4) (hw : kW D ca A h0 ad H0 H locs u) (hl : lv_has ls 5 [(0, .ref h0), (1, .long (jL x1)), (3, .int (jI x3)), (4, .int (jI x4))]) (h : w_natural_19 Q x1 x3 x4 u) : W p l e R s m args below meth c H locs 0 0 Qf (F0 m 19 ls []) := by
  refine h (fun x1 x3 x4 u => ∀ (H : Heap) (locs : List Loc) (ls : Array Slot), inL x1 → inR x3 → inR x4 → kW D ca A h0 ad H0 H locs u → lv_has ls 5 [(0, .ref h0), (1, .long (jL x1)), (3, .int (jI x3)), (4, .int (jI x4))] → W p l e R s m args below meth c H locs 0 0 Qf (F0 m 19 ls [])) ?_ H locs ls rx1 rx3 rx4 hw hl
  clear h hl hw rx1 rx3 rx4
  intro x1 x3 x4 u h H locs ls rx1 rx3 rx4 hw hl
  have hR19 : ∀ (x1 : Int) (x3 : Int) (x4 : Int) (u : iST) (H : Heap) (locs : List Loc) (ls : Array Slot), inL x1 → inR x3 → inR x4 → kW D ca A h0 ad H0 H locs u → lv_has ls 5 [(0, .ref h0), (1, .long (jL x1)), (3, .int (jI x3)), (4, .int (jI x4))] → (fun (x1 : Int) (x3 : Int) (x4 : Int) u => ∀ (H : Heap) (locs : List Loc) (ls : Array Slot), inL x1 → inR x3 → inR x4 → kW D ca A h0 ad H0 H locs u → lv_has ls 5 [(0, .ref h0), (1, .long (jL x1)), (3, .int (jI x3)), (4, .int (jI x4))] → W p l e R s m args below meth c H locs 0 0 Qf (F0 m 19 ls [])) x1 x3 x4 u → W p l e R s m args below meth c H locs 0 0 Qf (F0 m 19 ls []) := fun x1 x3 x4 u H locs ls rx1 rx3 rx4 hw hl h => h H locs ls rx1 rx3 rx4 hw hl
  have hx := X.1.1
  have hb := X.1.2.1
  unfold w_natural_19b at h
  refine lv_iload hx hb dX12_natural_19 (lv_at hl 3 rfl) ?_
  refine lv_iconst hx hb dX12_natural_21 (v := jI (-1)) rfl ?_
  refine k_icmp_eq hx hb rx4 (by decide) dX12_natural_22 (tgt := 62) rfl h (fun h => ?_) (fun h => ?_)
  · refine lv_aload_n hx hb dX12_natural_62 rfl (lv_at hl 0 rfl) ?_
    refine gA 5 27 (by decide) L_5 (fun _ _ => mF_5) rfl X hw dX12_natural_63 ?_
    refine lv_aload_n hx hb dX12_natural_66 rfl (lv_at hl 0 rfl) ?_
    refine gS 6 339 (by decide) L_6 (fun _ _ => mF_6) rfl X hw dX12_natural_67 h (fun v6 rv6 h => ?_)
    refine lv_lload_n hx hb dX12_natural_70 rfl (lv_at hl 1 rfl) ?_
    refine aK X hw rv6 rx1 dX12_natural_71 h (fun H locs u hw h => ?_)
    refine lv_aload_n hx hb dX12_natural_72 rfl (lv_at hl 0 rfl) ?_
    refine lv_dup hx hb dX12_natural_73 rfl ?_
    refine gS 6 339 (by decide) L_6 (fun _ _ => mF_6) rfl X hw dX12_natural_74 h (fun v7 rv7 h => ?_)
    refine lv_iconst hx hb dX12_natural_77 (v := jI 1) rfl ?_
    refine k_iadd hx hb dX12_natural_78 h (fun r8 h => ?_)
    refine pS 6 339 (by decide) L_6 rfl rfl rfl (fun _ _ _ _ _ => mSI_6) (by decide) X hw r8 dX12_natural_79 h (fun H locs u hw h => ?_)
    refine lv_aload_n hx hb dX12_natural_82 rfl (lv_at hl 0 rfl) ?_
    refine lv_iconst hx hb dX12_natural_83 (v := jI (-1)) rfl ?_
    refine lv_aload_n hx hb dX12_natural_84 rfl (lv_at hl 0 rfl) ?_
    refine gS 6 339 (by decide) L_6 (fun _ _ => mF_6) rfl X hw dX12_natural_85 h (fun v9 rv9 h => ?_)
    refine lv_iconst hx hb dX12_natural_88 (v := jI 1) rfl ?_
    refine k_isub hx hb dX12_natural_89 h (fun r10 h => ?_)
    refine lv_iload_n hx hb dX12_natural_90 rfl (lv_at hl 2 rfl) ?_
    refine kcI (n := 3) (c_added (by decide) r10 rx3 h) G_added E_added X hw (Nat.le_trans (Nat.le_of_ble_eq_true rfl) hRf) (Nat.le_trans (Nat.le_of_ble_eq_true rfl) hRl) rfl hl.1 (Nat.le_of_ble_eq_true rfl) rfl dX12_natural_91 (fun v11 u H locs rv11 h hw => ?_)
    exact hret _ _ _ _ _ _ rv11 h hw dX12_natural_94
  · refine lv_aload_n hx hb dX12_natural_25 rfl (lv_at hl 0 rfl) ?_
    refine gA 0 8 (by decide) L_0 (fun _ _ => mF_0) rfl X hw dX12_natural_26 ?_
    refine lv_iload hx hb dX12_natural_29 (lv_at hl 3 rfl) ?_
    refine aL 0 1 0 452000 (fun _ _ _ _ => mG_0) (fun _ => rfl) X hw rx4 dX12_natural_31 rfl h (fun v12 rv12 h => ?_)
    refine lv_iconst hx hb dX12_natural_32 (v := jI (-1)) rfl ?_
    refine k_icmp_ne hx hb rv12 (by decide) dX12_natural_33 (tgt := 50) rfl h (fun h => ?_) (fun h => ?_)
    · exact b_natural_50 X hRf hRl hret hR19 rx1 rx3 rx4 hw hl h
    · refine lv_aload_n hx hb dX12_natural_36 rfl (lv_at hl 0 rfl) ?_
      refine lv_iload hx hb dX12_natural_37 (lv_at hl 3 rfl) ?_
      refine kcL (n := 1) (c_value rx4 h) G_value E_value X hw (Nat.le_trans (Nat.le_of_ble_eq_true rfl) hRf) (Nat.le_trans (Nat.le_of_ble_eq_true rfl) hRl) rfl hl.1 (Nat.le_of_ble_eq_true rfl) rfl dX12_natural_39 (fun v14 u H locs rv14 h hw => ?_)
      refine lv_lload_n hx hb dX12_natural_42 rfl (lv_at hl 1 rfl) ?_
      refine k_lcmp_ne hx hb rv14 rx1 dX12_natural_43 dX12_natural_44 (tgt := 50) rfl h (fun h => ?_) (fun h => ?_)
      · exact b_natural_50 X hRf hRl hret hR19 rx1 rx3 rx4 hw hl h
      · refine lv_iload hx hb dX12_natural_47 (lv_at hl 3 rfl) ?_
        exact hret _ _ _ _ _ _ rx4 h hw dX12_natural_49

def w_natural (a0 : Int) (Q : Int → iST → Prop) (u : iST) : Prop :=
  rd (wl2i a0) (fun v1 => 
  rl (wlshr a0 32) (fun v2 => 
  rd (wl2i v2) (fun v3 => 
  w_slot v1 v3 (fun v4 u => 
  bd v4 8192 (rd (u.2.1 7 v4) (fun v5 => 
  w_natural_19 Q a0 v4 v5 u))) u)))
set_option maxRecDepth 20000 in
set_option maxHeartbeats 4000000 in
theorem b_natural_s (X : kX p m c cX12_natural 5 s args D ca) (hRf : 1 ≤ R.frames) (hRl : 23 ≤ R.locals) {Q : Int → iST → Prop} (hret : ∀ (v : Int) (u : iST) (H : Heap) (locs : List Loc) (ls : Array Slot) (pc : Nat), inR v → Q v u → kW D ca A h0 ad H0 H locs u → decode cX12_natural pc = .ok (.ireturn, 1) → W p l e R s m args below meth c H locs 0 0 Qf (F0 m pc ls [.int (jI v)])) {a0 : Int} (ra0 : inL a0) (hw : kW D ca A h0 ad H0 H locs u) (hl : lv_has ls 5 [(0, .ref h0), (1, .long (jL a0))]) (h : w_natural a0 Q u) : W p l e R s m args below meth c H locs 0 0 Qf (F0 m 0 ls []) := by
  have hx := X.1.1
  have hb := X.1.2.1
  unfold w_natural at h
  refine lv_lload_n hx hb dX12_natural_0 rfl (lv_at hl 1 rfl) ?_
  refine k_l2i hx hb dX12_natural_1 h (fun v1 rv1 h => ?_)
  refine lv_lload_n hx hb dX12_natural_2 rfl (lv_at hl 1 rfl) ?_
  refine lv_bipush hx hb dX12_natural_3 (v := jI 32) rfl ?_
  refine k_lshr hx hb dX12_natural_5 h (fun v2 rv2 h => ?_)
  refine k_l2i hx hb dX12_natural_6 h (fun v3 rv3 h => ?_)
  refine kcT (n := 2) (c_slot rv1 rv3 h) G_slot E_slot X hw (Nat.le_trans (Nat.le_of_ble_eq_true rfl) hRf) (Nat.le_trans (Nat.le_of_ble_eq_true rfl) hRl) rfl hl.1 (Nat.le_of_ble_eq_true rfl) rfl dX12_natural_7 (fun v4 u H locs rv4 h hw => ?_)
  refine lv_istore_n hx hb dX12_natural_10 rfl hl (by decide) rfl (fun ls hl => ?_)
  have hl : lv_has ls 5 [(3, .int (jI v4)), (0, .ref (h0)), (1, .long (jL a0))] := hl
  refine lv_aload_n hx hb dX12_natural_11 rfl (lv_at hl 1 rfl) ?_
  refine gA 7 31 (by decide) L_7 (fun _ _ => mF_7) rfl X hw dX12_natural_12 ?_
  refine lv_iload_n hx hb dX12_natural_15 rfl (lv_at hl 0 rfl) ?_
  refine aL 7 7 6 8192 (fun _ _ _ _ => mG_7) (fun _ => rfl) X hw rv4 dX12_natural_16 rfl h (fun v5 rv5 h => ?_)
  refine lv_istore hx hb dX12_natural_17 hl (by decide) rfl (fun ls hl => ?_)
  have hl : lv_has ls 5 [(4, .int (jI v5)), (3, .int (jI v4)), (0, .ref (h0)), (1, .long (jL a0))] := hl
  exact b_natural_19 X hRf hRl hret ra0 rv4 rv5 hw (lv_sub hl [2, 3, 1, 0] rfl) h

end
theorem c_natural {l : Launch} {a0 : Int} (ra0 : inL a0) {Q : Int → iST → Prop} {u : iST} (h : w_natural a0 Q u) : kMI l yX12_natural (.code yX12_natural cX12_natural 5 (some .int) :: wsM) { frames := 1, cells := 0, slots := 0, locals := 23 } [.long (jL a0)] Q u := kMI_of rfl (fun _ => Nat.le_of_ble_eq_true rfl) (fun X hRf hRl hret hw hl => b_natural_s X hRf hRl hret ra0 hw hl h)

/-! forget -/
theorem dX12_forget_0 : decode cX12_forget 0 = .ok (.aload_n 0, 1) := by decide +kernel
theorem dX12_forget_1 : decode cX12_forget 1 = .ok (.getfield 332, 3) := by decide +kernel
theorem dX12_forget_4 : decode cX12_forget 4 = .ok (.iload_n 1, 1) := by decide +kernel
theorem dX12_forget_5 : decode cX12_forget 5 = .ok (.if_icmp .le 85, 3) := by decide +kernel
theorem dX12_forget_8 : decode cX12_forget 8 = .ok (.aload_n 0, 1) := by decide +kernel
theorem dX12_forget_9 : decode cX12_forget 9 = .ok (.dup, 1) := by decide +kernel
theorem dX12_forget_10 : decode cX12_forget 10 = .ok (.getfield 332, 3) := by decide +kernel
theorem dX12_forget_13 : decode cX12_forget 13 = .ok (.iconst 1, 1) := by decide +kernel
theorem dX12_forget_14 : decode cX12_forget 14 = .ok (.isub, 1) := by decide +kernel
theorem dX12_forget_15 : decode cX12_forget 15 = .ok (.putfield 332, 3) := by decide +kernel
theorem dX12_forget_18 : decode cX12_forget 18 = .ok (.aload_n 0, 1) := by decide +kernel
theorem dX12_forget_19 : decode cX12_forget 19 = .ok (.getfield 31, 3) := by decide +kernel
theorem dX12_forget_22 : decode cX12_forget 22 = .ok (.aload_n 0, 1) := by decide +kernel
theorem dX12_forget_23 : decode cX12_forget 23 = .ok (.aload_n 0, 1) := by decide +kernel
theorem dX12_forget_24 : decode cX12_forget 24 = .ok (.getfield 332, 3) := by decide +kernel
theorem dX12_forget_27 : decode cX12_forget 27 = .ok (.invokevirtual 349, 3) := by decide +kernel
theorem dX12_forget_30 : decode cX12_forget 30 = .ok (.aload_n 0, 1) := by decide +kernel
theorem dX12_forget_31 : decode cX12_forget 31 = .ok (.getfield 17, 3) := by decide +kernel
theorem dX12_forget_34 : decode cX12_forget 34 = .ok (.aload_n 0, 1) := by decide +kernel
theorem dX12_forget_35 : decode cX12_forget 35 = .ok (.getfield 332, 3) := by decide +kernel
theorem dX12_forget_38 : decode cX12_forget 38 = .ok (.iaload, 1) := by decide +kernel
theorem dX12_forget_39 : decode cX12_forget 39 = .ok (.iastore, 1) := by decide +kernel
theorem dX12_forget_40 : decode cX12_forget 40 = .ok (.aload_n 0, 1) := by decide +kernel
theorem dX12_forget_41 : decode cX12_forget 41 = .ok (.getfield 8, 3) := by decide +kernel
theorem dX12_forget_44 : decode cX12_forget 44 = .ok (.aload_n 0, 1) := by decide +kernel
theorem dX12_forget_45 : decode cX12_forget 45 = .ok (.getfield 332, 3) := by decide +kernel
theorem dX12_forget_48 : decode cX12_forget 48 = .ok (.iaload, 1) := by decide +kernel
theorem dX12_forget_49 : decode cX12_forget 49 = .ok (.bipush (-2), 2) := by decide +kernel
theorem dX12_forget_51 : decode cX12_forget 51 = .ok (.if_icmp .ne 13, 3) := by decide +kernel
theorem dX12_forget_54 : decode cX12_forget 54 = .ok (.aload_n 0, 1) := by decide +kernel
theorem dX12_forget_55 : decode cX12_forget 55 = .ok (.dup, 1) := by decide +kernel
theorem dX12_forget_56 : decode cX12_forget 56 = .ok (.getfield 346, 3) := by decide +kernel
theorem dX12_forget_59 : decode cX12_forget 59 = .ok (.iconst 1, 1) := by decide +kernel
theorem dX12_forget_60 : decode cX12_forget 60 = .ok (.isub, 1) := by decide +kernel
theorem dX12_forget_61 : decode cX12_forget 61 = .ok (.putfield 346, 3) := by decide +kernel
theorem dX12_forget_64 : decode cX12_forget 64 = .ok (.aload_n 0, 1) := by decide +kernel
theorem dX12_forget_65 : decode cX12_forget 65 = .ok (.getfield 8, 3) := by decide +kernel
theorem dX12_forget_68 : decode cX12_forget 68 = .ok (.aload_n 0, 1) := by decide +kernel
theorem dX12_forget_69 : decode cX12_forget 69 = .ok (.getfield 332, 3) := by decide +kernel
theorem dX12_forget_72 : decode cX12_forget 72 = .ok (.iaload, 1) := by decide +kernel
theorem dX12_forget_73 : decode cX12_forget 73 = .ok (.iconst (-1), 1) := by decide +kernel
theorem dX12_forget_74 : decode cX12_forget 74 = .ok (.if_icmp .ne (-74), 3) := by decide +kernel
theorem dX12_forget_77 : decode cX12_forget 77 = .ok (.aload_n 0, 1) := by decide +kernel
theorem dX12_forget_78 : decode cX12_forget 78 = .ok (.dup, 1) := by decide +kernel
theorem dX12_forget_79 : decode cX12_forget 79 = .ok (.getfield 339, 3) := by decide +kernel
theorem dX12_forget_82 : decode cX12_forget 82 = .ok (.iconst 1, 1) := by decide +kernel
theorem dX12_forget_83 : decode cX12_forget 83 = .ok (.isub, 1) := by decide +kernel
theorem dX12_forget_84 : decode cX12_forget 84 = .ok (.putfield 339, 3) := by decide +kernel
theorem dX12_forget_87 : decode cX12_forget 87 = .ok (.goto (-87), 3) := by decide +kernel
theorem dX12_forget_90 : decode cX12_forget 90 = .ok (.return_, 1) := by decide +kernel

section
variable {p : Program} {l : Launch} {e : Env} {R : Room} {s : State} {m : MethodId} {args : Array Value} {below : List Frame} {meth : Method} {c : Code} {H : Heap} {locs : List Loc} {Qf : State → Prop}
variable {ls : Array Slot} {D : va_G} {ca : Nat → ClassId} {A : Nat → Prop} {h0 : Nat} {ad : Nat → Nat} {H0 : Heap} {u : iST}
def w_forget_64 (R0 : Int → iST → Prop) (Q : iST → Prop) (x1 : Int) (u : iST) : Prop :=
  rd (u.1 8) (fun v10 => 
  bd v10 452000 (rd (u.2.1 0 v10) (fun v11 => 
  br (v11 ≠ (-1)) (
    R0 x1 u) (
    rd (u.1 6) (fun v12 => 
    ov (v12 - 1) (
    sw (iI u 6 (v12 - 1)) (fun u => 
    R0 x1 u)))))))
set_option maxRecDepth 20000 in
set_option maxHeartbeats 4000000 in
theorem b_forget_64 (X : kX p m c cX12_forget 2 s args D ca) (hRf : 2 ≤ R.frames) (hRl : 46 ≤ R.locals) {Q : iST → Prop} (hret : ∀ (u : iST) (H : Heap) (locs : List Loc) (ls : Array Slot) (pc : Nat), Q u → kW D ca A h0 ad H0 H locs u → decode cX12_forget pc = .ok (.return_, 1) → W p l e R s m args below meth c H locs 0 0 Qf (F0 m pc ls [])) {R0 : Int → iST → Prop} (hR0 : ∀ (x1 : Int) (u : iST) (H : Heap) (locs : List Loc) (ls : Array Slot), inR x1 → kW D ca A h0 ad H0 H locs u → lv_has ls 2 [(0, .ref h0), (1, .int (jI x1))] → R0 x1 u → W p l e R s m args below meth c H locs 0 0 Qf (F0 m 0 ls [])) {x1 : Int} (rx1 : inR x1) (hw : kW D ca A h0 ad H0 H locs u) (hl : lv_has ls 2 [(0, .ref h0), (1, .int (jI x1))]) (h : w_forget_64 R0 Q x1 u) : W p l e R s m args below meth c H locs 0 0 Qf (F0 m 64 ls []) := by
  have hx := X.1.1
  have hb := X.1.2.1
  unfold w_forget_64 at h
  refine lv_aload_n hx hb dX12_forget_64 rfl (lv_at hl 0 rfl) ?_
  refine gA 0 8 (by decide) L_0 (fun _ _ => mF_0) rfl X hw dX12_forget_65 ?_
  refine lv_aload_n hx hb dX12_forget_68 rfl (lv_at hl 0 rfl) ?_
  refine gS 8 332 (by decide) L_8 (fun _ _ => mF_8) rfl X hw dX12_forget_69 h (fun v10 rv10 h => ?_)
  refine aL 0 1 0 452000 (fun _ _ _ _ => mG_0) (fun _ => rfl) X hw rv10 dX12_forget_72 rfl h (fun v11 rv11 h => ?_)
  refine lv_iconst hx hb dX12_forget_73 (v := jI (-1)) rfl ?_
  refine k_icmp_ne hx hb rv11 (by decide) dX12_forget_74 (tgt := 0) rfl h (fun h => ?_) (fun h => ?_)
  · exact hR0 _ _ H locs ls rx1 hw hl h
  · refine lv_aload_n hx hb dX12_forget_77 rfl (lv_at hl 0 rfl) ?_
    refine lv_dup hx hb dX12_forget_78 rfl ?_
    refine gS 6 339 (by decide) L_6 (fun _ _ => mF_6) rfl X hw dX12_forget_79 h (fun v12 rv12 h => ?_)
    refine lv_iconst hx hb dX12_forget_82 (v := jI 1) rfl ?_
    refine k_isub hx hb dX12_forget_83 h (fun r13 h => ?_)
    refine pS 6 339 (by decide) L_6 rfl rfl rfl (fun _ _ _ _ _ => mSI_6) (by decide) X hw r13 dX12_forget_84 h (fun H locs u hw h => ?_)
    refine lv_goto hx hb dX12_forget_87 (tgt := 0) rfl ?_
    exact hR0 _ _ H locs ls rx1 hw hl h

def w_forget_0b (R0 : Int → iST → Prop) (Q : iST → Prop) (x1 : Int) (u : iST) : Prop :=
  rd (u.1 8) (fun v1 => 
  br (v1 ≤ x1) (
    Q u) (
    rd (u.1 8) (fun v2 => 
    ov (v2 - 1) (
    sw (iI u 8 (v2 - 1)) (fun u => 
    rd (u.1 8) (fun v4 => 
    w_slotOf v4 (fun v5 u => 
    rd (u.1 8) (fun v6 => 
    bd v6 452000 (rd (u.2.1 2 v6) (fun v7 => 
    bd v5 8192 (sw (iA u 7 v5 v7) (fun u => 
    rd (u.1 8) (fun v8 => 
    bd v8 452000 (rd (u.2.1 0 v8) (fun v9 => 
    br (v9 ≠ (-2)) (
      w_forget_64 R0 Q x1 u) (
      rd (u.1 11) (fun v14 => 
      ov (v14 - 1) (
      sw (iI u 11 (v14 - 1)) (fun u => 
      w_forget_64 R0 Q x1 u))))))))))))) u))))))
def w_forget_0 (Q : iST → Prop) (x1 : Int) (u : iST) : Prop := ∀ R0 : Int → iST → Prop, (∀ (x1 : Int) (u : iST), w_forget_0b R0 Q x1 u → R0 x1 u) → R0 x1 u
set_option maxRecDepth 20000 in
set_option maxHeartbeats 4000000 in
theorem b_forget_0 (X : kX p m c cX12_forget 2 s args D ca) (hRf : 2 ≤ R.frames) (hRl : 46 ≤ R.locals) {Q : iST → Prop} (hret : ∀ (u : iST) (H : Heap) (locs : List Loc) (ls : Array Slot) (pc : Nat), Q u → kW D ca A h0 ad H0 H locs u → decode cX12_forget pc = .ok (.return_, 1) → W p l e R s m args below meth c H locs 0 0 Qf (F0 m pc ls [])) {x1 : Int} (rx1 : inR x1) (hw : kW D ca A h0 ad H0 H locs u) (hl : lv_has ls 2 [(0, .ref h0), (1, .int (jI x1))]) (h : w_forget_0 Q x1 u) : W p l e R s m args below meth c H locs 0 0 Qf (F0 m 0 ls []) := by
  refine h (fun x1 u => ∀ (H : Heap) (locs : List Loc) (ls : Array Slot), inR x1 → kW D ca A h0 ad H0 H locs u → lv_has ls 2 [(0, .ref h0), (1, .int (jI x1))] → W p l e R s m args below meth c H locs 0 0 Qf (F0 m 0 ls [])) ?_ H locs ls rx1 hw hl
  clear h hl hw rx1
  intro x1 u h H locs ls rx1 hw hl
  have hR0 : ∀ (x1 : Int) (u : iST) (H : Heap) (locs : List Loc) (ls : Array Slot), inR x1 → kW D ca A h0 ad H0 H locs u → lv_has ls 2 [(0, .ref h0), (1, .int (jI x1))] → (fun (x1 : Int) u => ∀ (H : Heap) (locs : List Loc) (ls : Array Slot), inR x1 → kW D ca A h0 ad H0 H locs u → lv_has ls 2 [(0, .ref h0), (1, .int (jI x1))] → W p l e R s m args below meth c H locs 0 0 Qf (F0 m 0 ls [])) x1 u → W p l e R s m args below meth c H locs 0 0 Qf (F0 m 0 ls []) := fun x1 u H locs ls rx1 hw hl h => h H locs ls rx1 hw hl
  have hx := X.1.1
  have hb := X.1.2.1
  unfold w_forget_0b at h
  refine lv_aload_n hx hb dX12_forget_0 rfl (lv_at hl 0 rfl) ?_
  refine gS 8 332 (by decide) L_8 (fun _ _ => mF_8) rfl X hw dX12_forget_1 h (fun v1 rv1 h => ?_)
  refine lv_iload_n hx hb dX12_forget_4 rfl (lv_at hl 1 rfl) ?_
  refine k_icmp_le hx hb rv1 rx1 dX12_forget_5 (tgt := 90) rfl h (fun h => ?_) (fun h => ?_)
  · exact hret _ _ _ _ _ h hw dX12_forget_90
  · refine lv_aload_n hx hb dX12_forget_8 rfl (lv_at hl 0 rfl) ?_
    refine lv_dup hx hb dX12_forget_9 rfl ?_
    refine gS 8 332 (by decide) L_8 (fun _ _ => mF_8) rfl X hw dX12_forget_10 h (fun v2 rv2 h => ?_)
    refine lv_iconst hx hb dX12_forget_13 (v := jI 1) rfl ?_
    refine k_isub hx hb dX12_forget_14 h (fun r3 h => ?_)
    refine pS 8 332 (by decide) L_8 rfl rfl rfl (fun _ _ _ _ _ => mSI_8) (by decide) X hw r3 dX12_forget_15 h (fun H locs u hw h => ?_)
    refine lv_aload_n hx hb dX12_forget_18 rfl (lv_at hl 0 rfl) ?_
    refine gA 7 31 (by decide) L_7 (fun _ _ => mF_7) rfl X hw dX12_forget_19 ?_
    refine lv_aload_n hx hb dX12_forget_22 rfl (lv_at hl 0 rfl) ?_
    refine lv_aload_n hx hb dX12_forget_23 rfl (lv_at hl 0 rfl) ?_
    refine gS 8 332 (by decide) L_8 (fun _ _ => mF_8) rfl X hw dX12_forget_24 h (fun v4 rv4 h => ?_)
    refine kcI (n := 1) (c_slotOf rv4 h) G_slotOf E_slotOf X hw (Nat.le_trans (Nat.le_of_ble_eq_true rfl) hRf) (Nat.le_trans (Nat.le_of_ble_eq_true rfl) hRl) rfl hl.1 (Nat.le_of_ble_eq_true rfl) rfl dX12_forget_27 (fun v5 u H locs rv5 h hw => ?_)
    refine lv_aload_n hx hb dX12_forget_30 rfl (lv_at hl 0 rfl) ?_
    refine gA 2 17 (by decide) L_2 (fun _ _ => mF_2) rfl X hw dX12_forget_31 ?_
    refine lv_aload_n hx hb dX12_forget_34 rfl (lv_at hl 0 rfl) ?_
    refine gS 8 332 (by decide) L_8 (fun _ _ => mF_8) rfl X hw dX12_forget_35 h (fun v6 rv6 h => ?_)
    refine aL 2 3 2 452000 (fun _ _ _ _ => mG_2) (fun _ => rfl) X hw rv6 dX12_forget_38 rfl h (fun v7 rv7 h => ?_)
    refine aS 7 7 6 8192 (fun _ _ _ _ => mG_7) (fun _ => rfl) (fun _ _ _ _ _ _ => mSA_7) (by decide) X hw rv5 rv7 dX12_forget_39 rfl h (fun H locs u hw h => ?_)
    refine lv_aload_n hx hb dX12_forget_40 rfl (lv_at hl 0 rfl) ?_
    refine gA 0 8 (by decide) L_0 (fun _ _ => mF_0) rfl X hw dX12_forget_41 ?_
    refine lv_aload_n hx hb dX12_forget_44 rfl (lv_at hl 0 rfl) ?_
    refine gS 8 332 (by decide) L_8 (fun _ _ => mF_8) rfl X hw dX12_forget_45 h (fun v8 rv8 h => ?_)
    refine aL 0 1 0 452000 (fun _ _ _ _ => mG_0) (fun _ => rfl) X hw rv8 dX12_forget_48 rfl h (fun v9 rv9 h => ?_)
    refine lv_bipush hx hb dX12_forget_49 (v := jI (-2)) rfl ?_
    refine k_icmp_ne hx hb rv9 (by decide) dX12_forget_51 (tgt := 64) rfl h (fun h => ?_) (fun h => ?_)
    · exact b_forget_64 X hRf hRl hret hR0 rx1 hw hl h
    · refine lv_aload_n hx hb dX12_forget_54 rfl (lv_at hl 0 rfl) ?_
      refine lv_dup hx hb dX12_forget_55 rfl ?_
      refine gS 11 346 (by decide) L_11 (fun _ _ => mF_11) rfl X hw dX12_forget_56 h (fun v14 rv14 h => ?_)
      refine lv_iconst hx hb dX12_forget_59 (v := jI 1) rfl ?_
      refine k_isub hx hb dX12_forget_60 h (fun r15 h => ?_)
      refine pS 11 346 (by decide) L_11 rfl rfl rfl (fun _ _ _ _ _ => mSI_11) (by decide) X hw r15 dX12_forget_61 h (fun H locs u hw h => ?_)
      exact b_forget_64 X hRf hRl hret hR0 rx1 hw hl h

def w_forget (a0 : Int) (Q : iST → Prop) (u : iST) : Prop :=
  w_forget_0 Q a0 u
set_option maxRecDepth 20000 in
set_option maxHeartbeats 4000000 in
theorem b_forget_s (X : kX p m c cX12_forget 2 s args D ca) (hRf : 2 ≤ R.frames) (hRl : 46 ≤ R.locals) {Q : iST → Prop} (hret : ∀ (u : iST) (H : Heap) (locs : List Loc) (ls : Array Slot) (pc : Nat), Q u → kW D ca A h0 ad H0 H locs u → decode cX12_forget pc = .ok (.return_, 1) → W p l e R s m args below meth c H locs 0 0 Qf (F0 m pc ls [])) {a0 : Int} (ra0 : inR a0) (hw : kW D ca A h0 ad H0 H locs u) (hl : lv_has ls 2 [(0, .ref h0), (1, .int (jI a0))]) (h : w_forget a0 Q u) : W p l e R s m args below meth c H locs 0 0 Qf (F0 m 0 ls []) := by
  have hx := X.1.1
  have hb := X.1.2.1
  unfold w_forget at h
  exact b_forget_0 X hRf hRl hret ra0 hw hl h

end
theorem c_forget {l : Launch} {a0 : Int} (ra0 : inR a0) {Q : iST → Prop} {u : iST} (h : w_forget a0 Q u) : kMV l yX12_forget (.code yX12_forget cX12_forget 2 none :: wsM) { frames := 2, cells := 0, slots := 0, locals := 46 } [.int (jI a0)] Q u := kMV_of rfl (fun _ => Nat.le_of_ble_eq_true rfl) (fun X hRf hRl hret hw hl => b_forget_s X hRf hRl hret ra0 hw hl h)
