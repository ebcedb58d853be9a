/-! ProofHouse$Proofs.isWithin -/
theorem dX3_isWithin_0 : decode cX3_isWithin 0 = .ok (.iconst 0, 1) := by decide +kernel
theorem dX3_isWithin_1 : decode cX3_isWithin 1 = .ok (.istore_n 3, 1) := by decide +kernel
theorem dX3_isWithin_2 : decode cX3_isWithin 2 = .ok (.iload_n 3, 1) := by decide +kernel
theorem dX3_isWithin_3 : decode cX3_isWithin 3 = .ok (.aload_n 1, 1) := by decide +kernel
theorem dX3_isWithin_4 : decode cX3_isWithin 4 = .ok (.getfield 234, 3) := by decide +kernel
theorem dX3_isWithin_7 : decode cX3_isWithin 7 = .ok (.if_icmp .ge 25, 3) := by decide +kernel
theorem dX3_isWithin_10 : decode cX3_isWithin 10 = .ok (.aload_n 2, 1) := by decide +kernel
theorem dX3_isWithin_11 : decode cX3_isWithin 11 = .ok (.aload_n 1, 1) := by decide +kernel
theorem dX3_isWithin_12 : decode cX3_isWithin 12 = .ok (.getfield 237, 3) := by decide +kernel
theorem dX3_isWithin_15 : decode cX3_isWithin 15 = .ok (.iload_n 3, 1) := by decide +kernel
theorem dX3_isWithin_16 : decode cX3_isWithin 16 = .ok (.iaload, 1) := by decide +kernel
theorem dX3_isWithin_17 : decode cX3_isWithin 17 = .ok (.invokevirtual 260, 3) := by decide +kernel
theorem dX3_isWithin_20 : decode cX3_isWithin 20 = .ok (.iconst (-1), 1) := by decide +kernel
theorem dX3_isWithin_21 : decode cX3_isWithin 21 = .ok (.if_icmp .ne 5, 3) := by decide +kernel
theorem dX3_isWithin_24 : decode cX3_isWithin 24 = .ok (.iconst 0, 1) := by decide +kernel
theorem dX3_isWithin_25 : decode cX3_isWithin 25 = .ok (.ireturn, 1) := by decide +kernel
theorem dX3_isWithin_26 : decode cX3_isWithin 26 = .ok (.iinc 3 1, 3) := by decide +kernel
theorem dX3_isWithin_29 : decode cX3_isWithin 29 = .ok (.goto (-27), 3) := by decide +kernel
theorem dX3_isWithin_32 : decode cX3_isWithin 32 = .ok (.iconst 1, 1) := by decide +kernel
theorem dX3_isWithin_33 : decode cX3_isWithin 33 = .ok (.ireturn, 1) := by decide +kernel

section
variable {p : Program} {l : Launch} {e : Env} {R : Room} {s : State} {m : MethodId} {args : Array Value} {below : List Frame} {meth : Method} {c : Code} {H : Heap} {locs : List Loc} {Qf : State → Prop}
variable {ls : Array Slot} {D : va_G} {ca : Nat → ClassId} {A : Nat → Prop} {ad : Nat → Nat → Nat} {u : iST}
def v_3_isWithin_2b (R2 : Int → Int → Int → iST → Prop) (Q : Int → iST → Prop) (x1 : Int) (x2 : Int) (x3 : Int) (u : iST) : Prop :=
  rd (u.2.1 46 x1) (fun v1 => 
  br (v1 ≤ x3) (
    zt 1 (Q 1 u)) (
    bd x3 30 (rd (u.2.1 49 (30 * x1 + x3)) (fun v2 => 
    v_1_placeOf x2 v2 (fun v3 u => 
    br (v3 ≠ (-1)) (
      ov (x3 + 1) (
      R2 x1 x2 (x3 + 1) u)) (
      zt 0 (Q 0 u))) u))))
def v_3_isWithin_2 (Q : Int → iST → Prop) (x1 : Int) (x2 : Int) (x3 : Int) (u : iST) : Prop := ∀ R2 : Int → Int → Int → iST → Prop, (∀ (x1 : Int) (x2 : Int) (x3 : Int) (u : iST), v_3_isWithin_2b R2 Q x1 x2 x3 u → R2 x1 x2 x3 u) → R2 x1 x2 x3 u
set_option maxRecDepth 20000 in
set_option maxHeartbeats 4000000 in
theorem f_3_isWithin_2 (X : yX RX3 p m c cX3_isWithin 4 s args D ca ad A) (hRf : 1 ≤ R.frames) (hRl : 22 ≤ R.locals) {Q : Int → iST → Prop} (hret : ∀ (v : Int) (u : iST) (H : Heap) (locs : List Loc) (ls : Array Slot) (pc : Nat), bz v → Q v u → yW D ca A ad s H locs u → decode cX3_isWithin pc = .ok (.ireturn, 1) → W p l e R s m args below meth c H locs 0 0 Qf (F0 m pc ls [.int (jI v)])) {x1 x2 x3 : Int} (rx1 : (0 ≤ x1 ∧ x1 < 408)) (rx2 : (0 ≤ x2 ∧ x2 < 408)) (rx3 : inR x3) (hw : yW D ca A ad s H locs u) (hl : lv_has ls 4 [(0, .ref (ad 0 2)), (1, .ref (ad 4 x1.toNat)), (2, .ref (ad 4 x2.toNat)), (3, .int (jI x3))]) (h : v_3_isWithin_2 Q x1 x2 x3 u) : W p l e R s m args below meth c H locs 0 0 Qf (F0 m 2 ls []) := by
  refine h (fun x1 x2 x3 u => ∀ (H : Heap) (locs : List Loc) (ls : Array Slot), (0 ≤ x1 ∧ x1 < 408) → (0 ≤ x2 ∧ x2 < 408) → inR x3 → yW D ca A ad s H locs u → lv_has ls 4 [(0, .ref (ad 0 2)), (1, .ref (ad 4 x1.toNat)), (2, .ref (ad 4 x2.toNat)), (3, .int (jI x3))] → W p l e R s m args below meth c H locs 0 0 Qf (F0 m 2 ls [])) ?_ H locs ls rx1 rx2 rx3 hw hl
  clear h hl hw rx1 rx2 rx3
  intro x1 x2 x3 u h H locs ls rx1 rx2 rx3 hw hl
  have hR2 : ∀ (x1 : Int) (x2 : Int) (x3 : Int) (u : iST) (H : Heap) (locs : List Loc) (ls : Array Slot), (0 ≤ x1 ∧ x1 < 408) → (0 ≤ x2 ∧ x2 < 408) → inR x3 → yW D ca A ad s H locs u → lv_has ls 4 [(0, .ref (ad 0 2)), (1, .ref (ad 4 x1.toNat)), (2, .ref (ad 4 x2.toNat)), (3, .int (jI x3))] → (fun (x1 : Int) (x2 : Int) (x3 : Int) u => ∀ (H : Heap) (locs : List Loc) (ls : Array Slot), (0 ≤ x1 ∧ x1 < 408) → (0 ≤ x2 ∧ x2 < 408) → inR x3 → yW D ca A ad s H locs u → lv_has ls 4 [(0, .ref (ad 0 2)), (1, .ref (ad 4 x1.toNat)), (2, .ref (ad 4 x2.toNat)), (3, .int (jI x3))] → W p l e R s m args below meth c H locs 0 0 Qf (F0 m 2 ls [])) x1 x2 x3 u → W p l e R s m args below meth c H locs 0 0 Qf (F0 m 2 ls []) := fun x1 x2 x3 u H locs ls rx1 rx2 rx3 hw hl h => h H locs ls rx1 rx2 rx3 hw hl
  have hx := X.1.1
  have hb := X.1.2.1
  unfold v_3_isWithin_2b at h
  refine lv_iload_n hx hb dX3_isWithin_2 rfl (lv_at hl 3 rfl) ?_
  refine lv_aload_n hx hb dX3_isWithin_3 rfl (lv_at hl 1 rfl) ?_
  refine yg_3_234 X hw dX3_isWithin_4 rx1 h (fun v1 rv1 h => ?_)
  refine k_icmp_ge hx hb rx3 rv1 dX3_isWithin_7 (tgt := 32) rfl h (fun h => ?_) (fun h => ?_)
  · refine lv_iconst hx hb dX3_isWithin_32 (v := jI 1) rfl ?_
    exact hret _ _ _ _ _ _ h.1 h.2 hw dX3_isWithin_33
  · refine lv_aload_n hx hb dX3_isWithin_10 rfl (lv_at hl 2 rfl) ?_
    refine lv_aload_n hx hb dX3_isWithin_11 rfl (lv_at hl 1 rfl) ?_
    refine yg_3_237 X hw dX3_isWithin_12 rx1 ?_
    refine lv_iload_n hx hb dX3_isWithin_15 rfl (lv_at hl 3 rfl) ?_
    refine yfl_lits X hw rx1 rx3 dX3_isWithin_16 h (fun v2 rv2 h => ?_)
    refine ycI (n := 1) (e_1_placeOf rx2 rv2 h) 1 (65 + x2.toNat) (r := (RX1, TX1, 4)) rfl yG_3_260 yD_1_placeOf X hw rfl (yGf_clause (toNat_lt rx2)) (Nat.le_trans (Nat.le_of_ble_eq_true rfl) hRf) (Nat.le_trans (Nat.le_of_ble_eq_true rfl) hRl) rfl hl.1 (Nat.le_of_ble_eq_true rfl) rfl dX3_isWithin_17 (fun v3 u H locs rv3 h hw => ?_)
    refine lv_iconst hx hb dX3_isWithin_20 (v := jI (-1)) rfl ?_
    refine k_icmp_ne hx hb rv3 (by decide) dX3_isWithin_21 (tgt := 26) rfl h (fun h => ?_) (fun h => ?_)
    · refine k_iinc (k := 3) hx hb dX3_isWithin_26 hl rfl (by decide) rfl h (fun ls r4 h hl => ?_)
      have hl : lv_has ls 4 [(3, .int (jI (x3 + 1))), (0, .ref (ad 0 2)), (1, .ref (ad 4 x1.toNat)), (2, .ref (ad 4 x2.toNat))] := hl
      refine lv_goto hx hb dX3_isWithin_29 (tgt := 2) rfl ?_
      exact hR2 _ _ _ _ H locs ls rx1 rx2 r4 hw (lv_sub hl [1, 2, 3, 0] rfl) h
    · refine lv_iconst hx hb dX3_isWithin_24 (v := jI 0) rfl ?_
      exact hret _ _ _ _ _ _ h.1 h.2 hw dX3_isWithin_25

def v_3_isWithin (a0 : Int) (a1 : Int) (Q : Int → iST → Prop) (u : iST) : Prop :=
  v_3_isWithin_2 Q a0 a1 0 u
set_option maxRecDepth 20000 in
set_option maxHeartbeats 4000000 in
theorem f_3_isWithin_s (X : yX RX3 p m c cX3_isWithin 4 s args D ca ad A) (hRf : 1 ≤ R.frames) (hRl : 22 ≤ R.locals) {Q : Int → iST → Prop} (hret : ∀ (v : Int) (u : iST) (H : Heap) (locs : List Loc) (ls : Array Slot) (pc : Nat), bz v → Q v u → yW D ca A ad s H locs u → decode cX3_isWithin pc = .ok (.ireturn, 1) → W p l e R s m args below meth c H locs 0 0 Qf (F0 m pc ls [.int (jI v)])) {a0 a1 : Int} (ra0 : (0 ≤ a0 ∧ a0 < 408)) (ra1 : (0 ≤ a1 ∧ a1 < 408)) (hw : yW D ca A ad s H locs u) (hl : lv_has ls 4 [(0, .ref (ad 0 2)), (1, .ref (ad 4 a0.toNat)), (2, .ref (ad 4 a1.toNat))]) (h : v_3_isWithin a0 a1 Q u) : W p l e R s m args below meth c H locs 0 0 Qf (F0 m 0 ls []) := by
  have hx := X.1.1
  have hb := X.1.2.1
  unfold v_3_isWithin at h
  refine lv_iconst hx hb dX3_isWithin_0 (v := jI 0) rfl ?_
  refine lv_istore_n hx hb dX3_isWithin_1 rfl hl (by decide) rfl (fun ls hl => ?_)
  have hl : lv_has ls 4 [(3, .int (jI 0)), (0, .ref (ad 0 2)), (1, .ref (ad 4 a0.toNat)), (2, .ref (ad 4 a1.toNat))] := hl
  exact f_3_isWithin_2 X hRf hRl hret ra0 ra1 (by decide) hw (lv_sub hl [1, 2, 3, 0] rfl) h

end
theorem e_3_isWithin {l : Launch} {a0 : Int} {a1 : Int} (ra0 : (0 ≤ a0 ∧ a0 < 408)) (ra1 : (0 ≤ a1 ∧ a1 < 408)) {Q : Int → iST → Prop} {u : iST} (h : v_3_isWithin a0 a1 Q u) : yMI l yX3_isWithin (.code yX3_isWithin cX3_isWithin 4 (some .boolean) :: wsN) { frames := 1, cells := 0, slots := 0, locals := 22 } (fun ad => [.ref (ad 0 2), .ref (ad 4 a0.toNat), .ref (ad 4 a1.toNat)]) Q u := yMZ_of (own := RX3) rfl (by decide +kernel) (fun _ => Nat.le_of_ble_eq_true rfl) (fun X hRf hRl hret hw hl => f_3_isWithin_s X hRf hRl hret ra0 ra1 hw hl h)

/-! ProofHouse$Proofs.isInduced -/
theorem dX3_isInduced_0 : decode cX3_isInduced 0 = .ok (.aload_n 0, 1) := by decide +kernel
theorem dX3_isInduced_1 : decode cX3_isInduced 1 = .ok (.iload_n 2, 1) := by decide +kernel
theorem dX3_isInduced_2 : decode cX3_isInduced 2 = .ok (.iconst 1, 1) := by decide +kernel
theorem dX3_isInduced_3 : decode cX3_isInduced 3 = .ok (.invokevirtual 109, 3) := by decide +kernel
theorem dX3_isInduced_6 : decode cX3_isInduced 6 = .ok (.istore 4, 2) := by decide +kernel
theorem dX3_isInduced_8 : decode cX3_isInduced 8 = .ok (.aload_n 0, 1) := by decide +kernel
theorem dX3_isInduced_9 : decode cX3_isInduced 9 = .ok (.getfield 37, 3) := by decide +kernel
theorem dX3_isInduced_12 : decode cX3_isInduced 12 = .ok (.iload_n 2, 1) := by decide +kernel
theorem dX3_isInduced_13 : decode cX3_isInduced 13 = .ok (.iconst 2, 1) := by decide +kernel
theorem dX3_isInduced_14 : decode cX3_isInduced 14 = .ok (.invokevirtual 67, 3) := by decide +kernel
theorem dX3_isInduced_17 : decode cX3_isInduced 17 = .ok (.istore 5, 2) := by decide +kernel
theorem dX3_isInduced_19 : decode cX3_isInduced 19 = .ok (.aload_n 0, 1) := by decide +kernel
theorem dX3_isInduced_20 : decode cX3_isInduced 20 = .ok (.getfield 41, 3) := by decide +kernel
theorem dX3_isInduced_23 : decode cX3_isInduced 23 = .ok (.aload_n 0, 1) := by decide +kernel
theorem dX3_isInduced_24 : decode cX3_isInduced 24 = .ok (.getfield 37, 3) := by decide +kernel
theorem dX3_isInduced_27 : decode cX3_isInduced 27 = .ok (.iload 5, 2) := by decide +kernel
theorem dX3_isInduced_29 : decode cX3_isInduced 29 = .ok (.invokevirtual 89, 3) := by decide +kernel
theorem dX3_isInduced_32 : decode cX3_isInduced 32 = .ok (.invokevirtual 120, 3) := by decide +kernel
theorem dX3_isInduced_35 : decode cX3_isInduced 35 = .ok (.istore 6, 2) := by decide +kernel
theorem dX3_isInduced_37 : decode cX3_isInduced 37 = .ok (.iload 6, 2) := by decide +kernel
theorem dX3_isInduced_39 : decode cX3_isInduced 39 = .ok (.iconst (-1), 1) := by decide +kernel
theorem dX3_isInduced_40 : decode cX3_isInduced 40 = .ok (.if_icmp .ne 5, 3) := by decide +kernel
theorem dX3_isInduced_43 : decode cX3_isInduced 43 = .ok (.iconst 0, 1) := by decide +kernel
theorem dX3_isInduced_44 : decode cX3_isInduced 44 = .ok (.ireturn, 1) := by decide +kernel
theorem dX3_isInduced_45 : decode cX3_isInduced 45 = .ok (.aload_n 0, 1) := by decide +kernel
theorem dX3_isInduced_46 : decode cX3_isInduced 46 = .ok (.getfield 53, 3) := by decide +kernel
theorem dX3_isInduced_49 : decode cX3_isInduced 49 = .ok (.aload_n 0, 1) := by decide +kernel
theorem dX3_isInduced_50 : decode cX3_isInduced 50 = .ok (.getfield 41, 3) := by decide +kernel
theorem dX3_isInduced_53 : decode cX3_isInduced 53 = .ok (.getfield 163, 3) := by decide +kernel
theorem dX3_isInduced_56 : decode cX3_isInduced 56 = .ok (.iload 6, 2) := by decide +kernel
theorem dX3_isInduced_58 : decode cX3_isInduced 58 = .ok (.iaload, 1) := by decide +kernel
theorem dX3_isInduced_59 : decode cX3_isInduced 59 = .ok (.invokevirtual 263, 3) := by decide +kernel
theorem dX3_isInduced_62 : decode cX3_isInduced 62 = .ok (.istore 7, 2) := by decide +kernel
theorem dX3_isInduced_64 : decode cX3_isInduced 64 = .ok (.iload_n 3, 1) := by decide +kernel
theorem dX3_isInduced_65 : decode cX3_isInduced 65 = .ok (.istore 8, 2) := by decide +kernel
theorem dX3_isInduced_67 : decode cX3_isInduced 67 = .ok (.iload 8, 2) := by decide +kernel
theorem dX3_isInduced_69 : decode cX3_isInduced 69 = .ok (.aload_n 0, 1) := by decide +kernel
theorem dX3_isInduced_70 : decode cX3_isInduced 70 = .ok (.getfield 26, 3) := by decide +kernel
theorem dX3_isInduced_73 : decode cX3_isInduced 73 = .ok (.if_icmp .ge 138, 3) := by decide +kernel
theorem dX3_isInduced_76 : decode cX3_isInduced 76 = .ok (.iload 7, 2) := by decide +kernel
theorem dX3_isInduced_78 : decode cX3_isInduced 78 = .ok (.ifCond .eq 133, 3) := by decide +kernel
theorem dX3_isInduced_81 : decode cX3_isInduced 81 = .ok (.aload_n 0, 1) := by decide +kernel
theorem dX3_isInduced_82 : decode cX3_isInduced 82 = .ok (.getfield 37, 3) := by decide +kernel
theorem dX3_isInduced_85 : decode cX3_isInduced 85 = .ok (.getfield 62, 3) := by decide +kernel
theorem dX3_isInduced_88 : decode cX3_isInduced 88 = .ok (.ifCond .ne 123, 3) := by decide +kernel
theorem dX3_isInduced_91 : decode cX3_isInduced 91 = .ok (.aload_n 0, 1) := by decide +kernel
theorem dX3_isInduced_92 : decode cX3_isInduced 92 = .ok (.getfield 30, 3) := by decide +kernel
theorem dX3_isInduced_95 : decode cX3_isInduced 95 = .ok (.invokevirtual 169, 3) := by decide +kernel
theorem dX3_isInduced_98 : decode cX3_isInduced 98 = .ok (.aload_n 0, 1) := by decide +kernel
theorem dX3_isInduced_99 : decode cX3_isInduced 99 = .ok (.getfield 53, 3) := by decide +kernel
theorem dX3_isInduced_102 : decode cX3_isInduced 102 = .ok (.aload_n 0, 1) := by decide +kernel
theorem dX3_isInduced_103 : decode cX3_isInduced 103 = .ok (.getfield 30, 3) := by decide +kernel
theorem dX3_isInduced_106 : decode cX3_isInduced 106 = .ok (.aload_n 0, 1) := by decide +kernel
theorem dX3_isInduced_107 : decode cX3_isInduced 107 = .ok (.getfield 41, 3) := by decide +kernel
theorem dX3_isInduced_110 : decode cX3_isInduced 110 = .ok (.getfield 212, 3) := by decide +kernel
theorem dX3_isInduced_113 : decode cX3_isInduced 113 = .ok (.iload 6, 2) := by decide +kernel
theorem dX3_isInduced_115 : decode cX3_isInduced 115 = .ok (.iaload, 1) := by decide +kernel
theorem dX3_isInduced_116 : decode cX3_isInduced 116 = .ok (.aload_n 0, 1) := by decide +kernel
theorem dX3_isInduced_117 : decode cX3_isInduced 117 = .ok (.getfield 37, 3) := by decide +kernel
theorem dX3_isInduced_120 : decode cX3_isInduced 120 = .ok (.iload 5, 2) := by decide +kernel
theorem dX3_isInduced_122 : decode cX3_isInduced 122 = .ok (.invokevirtual 131, 3) := by decide +kernel
theorem dX3_isInduced_125 : decode cX3_isInduced 125 = .ok (.invokevirtual 266, 3) := by decide +kernel
theorem dX3_isInduced_128 : decode cX3_isInduced 128 = .ok (.aload_n 0, 1) := by decide +kernel
theorem dX3_isInduced_129 : decode cX3_isInduced 129 = .ok (.getfield 53, 3) := by decide +kernel
theorem dX3_isInduced_132 : decode cX3_isInduced 132 = .ok (.aload_n 0, 1) := by decide +kernel
theorem dX3_isInduced_133 : decode cX3_isInduced 133 = .ok (.getfield 30, 3) := by decide +kernel
theorem dX3_isInduced_136 : decode cX3_isInduced 136 = .ok (.iload 4, 2) := by decide +kernel
theorem dX3_isInduced_138 : decode cX3_isInduced 138 = .ok (.iload 6, 2) := by decide +kernel
theorem dX3_isInduced_140 : decode cX3_isInduced 140 = .ok (.aload_n 0, 1) := by decide +kernel
theorem dX3_isInduced_141 : decode cX3_isInduced 141 = .ok (.getfield 37, 3) := by decide +kernel
theorem dX3_isInduced_144 : decode cX3_isInduced 144 = .ok (.iload 5, 2) := by decide +kernel
theorem dX3_isInduced_146 : decode cX3_isInduced 146 = .ok (.invokevirtual 131, 3) := by decide +kernel
theorem dX3_isInduced_149 : decode cX3_isInduced 149 = .ok (.invokevirtual 269, 3) := by decide +kernel
theorem dX3_isInduced_152 : decode cX3_isInduced 152 = .ok (.aload_n 0, 1) := by decide +kernel
theorem dX3_isInduced_153 : decode cX3_isInduced 153 = .ok (.getfield 45, 3) := by decide +kernel
theorem dX3_isInduced_156 : decode cX3_isInduced 156 = .ok (.aload_n 0, 1) := by decide +kernel
theorem dX3_isInduced_157 : decode cX3_isInduced 157 = .ok (.getfield 30, 3) := by decide +kernel
theorem dX3_isInduced_160 : decode cX3_isInduced 160 = .ok (.iload 4, 2) := by decide +kernel
theorem dX3_isInduced_162 : decode cX3_isInduced 162 = .ok (.invokevirtual 183, 3) := by decide +kernel
theorem dX3_isInduced_165 : decode cX3_isInduced 165 = .ok (.aload_n 0, 1) := by decide +kernel
theorem dX3_isInduced_166 : decode cX3_isInduced 166 = .ok (.getfield 37, 3) := by decide +kernel
theorem dX3_isInduced_169 : decode cX3_isInduced 169 = .ok (.getfield 62, 3) := by decide +kernel
theorem dX3_isInduced_172 : decode cX3_isInduced 172 = .ok (.ifCond .ne 23, 3) := by decide +kernel
theorem dX3_isInduced_175 : decode cX3_isInduced 175 = .ok (.aload_n 0, 1) := by decide +kernel
theorem dX3_isInduced_176 : decode cX3_isInduced 176 = .ok (.aload_n 0, 1) := by decide +kernel
theorem dX3_isInduced_177 : decode cX3_isInduced 177 = .ok (.getfield 22, 3) := by decide +kernel
theorem dX3_isInduced_180 : decode cX3_isInduced 180 = .ok (.iload 8, 2) := by decide +kernel
theorem dX3_isInduced_182 : decode cX3_isInduced 182 = .ok (.aaload, 1) := by decide +kernel
theorem dX3_isInduced_183 : decode cX3_isInduced 183 = .ok (.aload_n 0, 1) := by decide +kernel
theorem dX3_isInduced_184 : decode cX3_isInduced 184 = .ok (.getfield 30, 3) := by decide +kernel
theorem dX3_isInduced_187 : decode cX3_isInduced 187 = .ok (.invokevirtual 272, 3) := by decide +kernel
theorem dX3_isInduced_190 : decode cX3_isInduced 190 = .ok (.ifCond .ne 5, 3) := by decide +kernel
theorem dX3_isInduced_193 : decode cX3_isInduced 193 = .ok (.iconst 0, 1) := by decide +kernel
theorem dX3_isInduced_194 : decode cX3_isInduced 194 = .ok (.ireturn, 1) := by decide +kernel
theorem dX3_isInduced_195 : decode cX3_isInduced 195 = .ok (.aload_n 0, 1) := by decide +kernel
theorem dX3_isInduced_196 : decode cX3_isInduced 196 = .ok (.getfield 53, 3) := by decide +kernel
theorem dX3_isInduced_199 : decode cX3_isInduced 199 = .ok (.iconst (-1), 1) := by decide +kernel
theorem dX3_isInduced_200 : decode cX3_isInduced 200 = .ok (.invokevirtual 263, 3) := by decide +kernel
theorem dX3_isInduced_203 : decode cX3_isInduced 203 = .ok (.istore 7, 2) := by decide +kernel
theorem dX3_isInduced_205 : decode cX3_isInduced 205 = .ok (.iinc 8 1, 3) := by decide +kernel
theorem dX3_isInduced_208 : decode cX3_isInduced 208 = .ok (.goto (-141), 3) := by decide +kernel
theorem dX3_isInduced_211 : decode cX3_isInduced 211 = .ok (.aload_n 0, 1) := by decide +kernel
theorem dX3_isInduced_212 : decode cX3_isInduced 212 = .ok (.getfield 45, 3) := by decide +kernel
theorem dX3_isInduced_215 : decode cX3_isInduced 215 = .ok (.aload_n 1, 1) := by decide +kernel
theorem dX3_isInduced_216 : decode cX3_isInduced 216 = .ok (.iload 4, 2) := by decide +kernel
theorem dX3_isInduced_218 : decode cX3_isInduced 218 = .ok (.invokevirtual 183, 3) := by decide +kernel
theorem dX3_isInduced_221 : decode cX3_isInduced 221 = .ok (.iconst 1, 1) := by decide +kernel
theorem dX3_isInduced_222 : decode cX3_isInduced 222 = .ok (.ireturn, 1) := by decide +kernel

section
variable {p : Program} {l : Launch} {e : Env} {R : Room} {s : State} {m : MethodId} {args : Array Value} {below : List Frame} {meth : Method} {c : Code} {H : Heap} {locs : List Loc} {Qf : State → Prop}
variable {ls : Array Slot} {D : va_G} {ca : Nat → ClassId} {A : Nat → Prop} {ad : Nat → Nat → Nat} {u : iST}
def v_3_isInduced_211 (Q : Int → iST → Prop) (x1 : Int) (x4 : Int) (u : iST) : Prop :=
  v_10_join x1 x4 (fun u => 
  zt 1 (Q 1 u)) u
set_option maxRecDepth 20000 in
set_option maxHeartbeats 4000000 in
theorem f_3_isInduced_211 (X : yX RX3 p m c cX3_isInduced 9 s args D ca ad A) (hRf : 4 ≤ R.frames) (hRl : 103 ≤ R.locals) {Q : Int → iST → Prop} (hret : ∀ (v : Int) (u : iST) (H : Heap) (locs : List Loc) (ls : Array Slot) (pc : Nat), bz v → Q v u → yW D ca A ad s H locs u → decode cX3_isInduced pc = .ok (.ireturn, 1) → W p l e R s m args below meth c H locs 0 0 Qf (F0 m pc ls [.int (jI v)])) {x1 x4 : Int} (rx1 : (0 ≤ x1 ∧ x1 < 408)) (rx4 : inR x4) (hw : yW D ca A ad s H locs u) (hl : lv_has ls 9 [(0, .ref (ad 0 2)), (1, .ref (ad 4 x1.toNat)), (4, .int (jI x4))]) (h : v_3_isInduced_211 Q x1 x4 u) : W p l e R s m args below meth c H locs 0 0 Qf (F0 m 211 ls []) := by
  have hx := X.1.1
  have hb := X.1.2.1
  unfold v_3_isInduced_211 at h
  refine lv_aload_n hx hb dX3_isInduced_211 rfl (lv_at hl 0 rfl) ?_
  refine yg_3_45 X hw dX3_isInduced_212 ?_
  refine lv_aload_n hx hb dX3_isInduced_215 rfl (lv_at hl 1 rfl) ?_
  refine lv_iload hx hb dX3_isInduced_216 (lv_at hl 2 rfl) ?_
  refine ycV (n := 2) (e_10_join rx1 rx4 h) 10 8 (r := (RX10, TX10, 16)) rfl yG_3_183 yD_10_join X hw rfl yGo_10 (Nat.le_trans (Nat.le_of_ble_eq_true rfl) hRf) (Nat.le_trans (Nat.le_of_ble_eq_true rfl) hRl) rfl hl.1 (Nat.le_of_ble_eq_true rfl) rfl dX3_isInduced_218 (fun u H locs h hw => ?_)
  refine lv_iconst hx hb dX3_isInduced_221 (v := jI 1) rfl ?_
  exact hret _ _ _ _ _ _ h.1 h.2 hw dX3_isInduced_222

def v_3_isInduced_195 (R67 : Int → Int → Int → Int → Int → Int → iST → Prop) (Q : Int → iST → Prop) (x1 : Int) (x4 : Int) (x5 : Int) (x6 : Int) (x8 : Int) (u : iST) : Prop :=
  v_8_goToPath (-1) (fun v18 u => 
  ov (x8 + 1) (
  R67 x1 x4 x5 x6 v18 (x8 + 1) u)) u
set_option maxRecDepth 20000 in
set_option maxHeartbeats 4000000 in
theorem f_3_isInduced_195 (X : yX RX3 p m c cX3_isInduced 9 s args D ca ad A) (hRf : 4 ≤ R.frames) (hRl : 103 ≤ R.locals) {Q : Int → iST → Prop} (hret : ∀ (v : Int) (u : iST) (H : Heap) (locs : List Loc) (ls : Array Slot) (pc : Nat), bz v → Q v u → yW D ca A ad s H locs u → decode cX3_isInduced pc = .ok (.ireturn, 1) → W p l e R s m args below meth c H locs 0 0 Qf (F0 m pc ls [.int (jI v)])) {R67 : Int → Int → Int → Int → Int → Int → iST → Prop} (hR67 : ∀ (x1 : Int) (x4 : Int) (x5 : Int) (x6 : Int) (x7 : Int) (x8 : Int) (u : iST) (H : Heap) (locs : List Loc) (ls : Array Slot), (0 ≤ x1 ∧ x1 < 408) → inR x4 → inR x5 → inR x6 → inR x7 → inR x8 → yW D ca A ad s H locs u → lv_has ls 9 [(0, .ref (ad 0 2)), (1, .ref (ad 4 x1.toNat)), (4, .int (jI x4)), (5, .int (jI x5)), (6, .int (jI x6)), (7, .int (jI x7)), (8, .int (jI x8))] → R67 x1 x4 x5 x6 x7 x8 u → W p l e R s m args below meth c H locs 0 0 Qf (F0 m 67 ls [])) {x1 x4 x5 x6 x8 : Int} (rx1 : (0 ≤ x1 ∧ x1 < 408)) (rx4 : inR x4) (rx5 : inR x5) (rx6 : inR x6) (rx8 : inR x8) (hw : yW D ca A ad s H locs u) (hl : lv_has ls 9 [(0, .ref (ad 0 2)), (1, .ref (ad 4 x1.toNat)), (4, .int (jI x4)), (5, .int (jI x5)), (6, .int (jI x6)), (8, .int (jI x8))]) (h : v_3_isInduced_195 R67 Q x1 x4 x5 x6 x8 u) : W p l e R s m args below meth c H locs 0 0 Qf (F0 m 195 ls []) := by
  have hx := X.1.1
  have hb := X.1.2.1
  unfold v_3_isInduced_195 at h
  refine lv_aload_n hx hb dX3_isInduced_195 rfl (lv_at hl 0 rfl) ?_
  refine yg_3_53 X hw dX3_isInduced_196 ?_
  refine lv_iconst hx hb dX3_isInduced_199 (v := jI (-1)) rfl ?_
  refine ycI (n := 1) (e_8_goToPath (by decide) h) 8 7 (r := (RX8, TX8, 11)) rfl yG_3_263 yD_8_goToPath X hw rfl yGo_8 (Nat.le_trans (Nat.le_of_ble_eq_true rfl) hRf) (Nat.le_trans (Nat.le_of_ble_eq_true rfl) hRl) rfl hl.1 (Nat.le_of_ble_eq_true rfl) rfl dX3_isInduced_200 (fun v18 u H locs rv18 h hw => ?_)
  refine lv_istore hx hb dX3_isInduced_203 hl (by decide) rfl (fun ls hl => ?_)
  have hl : lv_has ls 9 [(7, .int (jI v18)), (0, .ref (ad 0 2)), (1, .ref (ad 4 x1.toNat)), (4, .int (jI x4)), (5, .int (jI x5)), (6, .int (jI x6)), (8, .int (jI x8))] := hl
  refine k_iinc (k := 6) hx hb dX3_isInduced_205 hl rfl (by decide) rfl h (fun ls r19 h hl => ?_)
  have hl : lv_has ls 9 [(8, .int (jI (x8 + 1))), (7, .int (jI v18)), (0, .ref (ad 0 2)), (1, .ref (ad 4 x1.toNat)), (4, .int (jI x4)), (5, .int (jI x5)), (6, .int (jI x6))] := hl
  refine lv_goto hx hb dX3_isInduced_208 (tgt := 67) rfl ?_
  exact hR67 _ _ _ _ _ _ _ H locs ls rx1 rx4 rx5 rx6 rv18 r19 hw (lv_sub hl [2, 3, 4, 5, 6, 1, 0] rfl) h

def v_3_isInduced_67b (R67 : Int → Int → Int → Int → Int → Int → iST → Prop) (Q : Int → iST → Prop) (x1 : Int) (x4 : Int) (x5 : Int) (x6 : Int) (x7 : Int) (x8 : Int) (u : iST) : Prop :=
  rd (u.1 11) (fun v7 => 
  br (v7 ≤ x8) (
    v_3_isInduced_211 Q x1 x4 u) (
    br (x7 = 0) (
      v_3_isInduced_211 Q x1 x4 u) (
      rd (u.1 32) (fun v9 => 
      br (v9 ≠ 0) (
        v_3_isInduced_211 Q x1 x4 u) (
        v_1_clear 151 (fun u => 
        bd x6 40 (rd (u.2.1 1 x6) (fun v11 => 
        v_7_right x5 (fun v12 u => 
        v_8_addRulers 151 v11 v12 (fun u => 
        v_7_right x5 (fun v14 u => 
        v_8_addInductionHypotheses 151 x4 x6 v14 (fun u => 
        v_10_join 151 x4 (fun u => 
        rd (u.1 32) (fun v17 => 
        br (v17 ≠ 0) (
          v_3_isInduced_195 R67 Q x1 x4 x5 x6 x8 u) (
          bd x8 256 (rc (u.2.1 57 x8) (fun v20 => 
          v_3_isWithin v20 151 (fun v21 u => 
          br (v21 ≠ 0) (
            v_3_isInduced_195 R67 Q x1 x4 x5 x6 x8 u) (
            zt 0 (Q 0 u))) u))))) u) u) u) u) u))) u)))))
def v_3_isInduced_67 (Q : Int → iST → Prop) (x1 : Int) (x4 : Int) (x5 : Int) (x6 : Int) (x7 : Int) (x8 : Int) (u : iST) : Prop := ∀ R67 : Int → Int → Int → Int → Int → Int → iST → Prop, (∀ (x1 : Int) (x4 : Int) (x5 : Int) (x6 : Int) (x7 : Int) (x8 : Int) (u : iST), v_3_isInduced_67b R67 Q x1 x4 x5 x6 x7 x8 u → R67 x1 x4 x5 x6 x7 x8 u) → R67 x1 x4 x5 x6 x7 x8 u
set_option maxRecDepth 20000 in
set_option maxHeartbeats 4000000 in
theorem f_3_isInduced_67 (X : yX RX3 p m c cX3_isInduced 9 s args D ca ad A) (hRf : 4 ≤ R.frames) (hRl : 103 ≤ R.locals) {Q : Int → iST → Prop} (hret : ∀ (v : Int) (u : iST) (H : Heap) (locs : List Loc) (ls : Array Slot) (pc : Nat), bz v → Q v u → yW D ca A ad s H locs u → decode cX3_isInduced pc = .ok (.ireturn, 1) → W p l e R s m args below meth c H locs 0 0 Qf (F0 m pc ls [.int (jI v)])) {x1 x4 x5 x6 x7 x8 : Int} (rx1 : (0 ≤ x1 ∧ x1 < 408)) (rx4 : inR x4) (rx5 : inR x5) (rx6 : inR x6) (rx7 : inR x7) (rx8 : inR x8) (hw : yW D ca A ad s H locs u) (hl : lv_has ls 9 [(0, .ref (ad 0 2)), (1, .ref (ad 4 x1.toNat)), (4, .int (jI x4)), (5, .int (jI x5)), (6, .int (jI x6)), (7, .int (jI x7)), (8, .int (jI x8))]) (h : v_3_isInduced_67 Q x1 x4 x5 x6 x7 x8 u) : W p l e R s m args below meth c H locs 0 0 Qf (F0 m 67 ls []) := by
  refine h (fun x1 x4 x5 x6 x7 x8 u => ∀ (H : Heap) (locs : List Loc) (ls : Array Slot), (0 ≤ x1 ∧ x1 < 408) → inR x4 → inR x5 → inR x6 → inR x7 → inR x8 → yW D ca A ad s H locs u → lv_has ls 9 [(0, .ref (ad 0 2)), (1, .ref (ad 4 x1.toNat)), (4, .int (jI x4)), (5, .int (jI x5)), (6, .int (jI x6)), (7, .int (jI x7)), (8, .int (jI x8))] → W p l e R s m args below meth c H locs 0 0 Qf (F0 m 67 ls [])) ?_ H locs ls rx1 rx4 rx5 rx6 rx7 rx8 hw hl
  clear h hl hw rx1 rx4 rx5 rx6 rx7 rx8
  intro x1 x4 x5 x6 x7 x8 u h H locs ls rx1 rx4 rx5 rx6 rx7 rx8 hw hl
  have hR67 : ∀ (x1 : Int) (x4 : Int) (x5 : Int) (x6 : Int) (x7 : Int) (x8 : Int) (u : iST) (H : Heap) (locs : List Loc) (ls : Array Slot), (0 ≤ x1 ∧ x1 < 408) → inR x4 → inR x5 → inR x6 → inR x7 → inR x8 → yW D ca A ad s H locs u → lv_has ls 9 [(0, .ref (ad 0 2)), (1, .ref (ad 4 x1.toNat)), (4, .int (jI x4)), (5, .int (jI x5)), (6, .int (jI x6)), (7, .int (jI x7)), (8, .int (jI x8))] → (fun (x1 : Int) (x4 : Int) (x5 : Int) (x6 : Int) (x7 : Int) (x8 : Int) u => ∀ (H : Heap) (locs : List Loc) (ls : Array Slot), (0 ≤ x1 ∧ x1 < 408) → inR x4 → inR x5 → inR x6 → inR x7 → inR x8 → yW D ca A ad s H locs u → lv_has ls 9 [(0, .ref (ad 0 2)), (1, .ref (ad 4 x1.toNat)), (4, .int (jI x4)), (5, .int (jI x5)), (6, .int (jI x6)), (7, .int (jI x7)), (8, .int (jI x8))] → W p l e R s m args below meth c H locs 0 0 Qf (F0 m 67 ls [])) x1 x4 x5 x6 x7 x8 u → W p l e R s m args below meth c H locs 0 0 Qf (F0 m 67 ls []) := fun x1 x4 x5 x6 x7 x8 u H locs ls rx1 rx4 rx5 rx6 rx7 rx8 hw hl h => h H locs ls rx1 rx4 rx5 rx6 rx7 rx8 hw hl
  have hx := X.1.1
  have hb := X.1.2.1
  unfold v_3_isInduced_67b at h
  refine lv_iload hx hb dX3_isInduced_67 (lv_at hl 6 rfl) ?_
  refine lv_aload_n hx hb dX3_isInduced_69 rfl (lv_at hl 0 rfl) ?_
  refine yg_3_26 X hw dX3_isInduced_70 h (fun v7 rv7 h => ?_)
  refine k_icmp_ge hx hb rx8 rv7 dX3_isInduced_73 (tgt := 211) rfl h (fun h => ?_) (fun h => ?_)
  · exact f_3_isInduced_211 X hRf hRl hret rx1 rx4 hw (lv_sub hl [0, 1, 2] rfl) h
  · refine lv_iload hx hb dX3_isInduced_76 (lv_at hl 5 rfl) ?_
    refine k_if_eq hx hb rx7 dX3_isInduced_78 (tgt := 211) rfl h (fun h => ?_) (fun h => ?_)
    · exact f_3_isInduced_211 X hRf hRl hret rx1 rx4 hw (lv_sub hl [0, 1, 2] rfl) h
    · refine lv_aload_n hx hb dX3_isInduced_81 rfl (lv_at hl 0 rfl) ?_
      refine yg_3_37 X hw dX3_isInduced_82 ?_
      refine yg_3_62 X hw dX3_isInduced_85 h (fun v9 rv9 h => ?_)
      refine k_if_ne hx hb rv9 dX3_isInduced_88 (tgt := 211) rfl h (fun h => ?_) (fun h => ?_)
      · exact f_3_isInduced_211 X hRf hRl hret rx1 rx4 hw (lv_sub hl [0, 1, 2] rfl) h
      · refine lv_aload_n hx hb dX3_isInduced_91 rfl (lv_at hl 0 rfl) ?_
        refine yg_3_30 X hw dX3_isInduced_92 ?_
        refine ycV (n := 0) (e_1_clear (by decide) h) 1 (65 + (151 : Int).toNat) (r := (RX1, TX1, 4)) rfl yG_3_169 yD_1_clear X hw rfl (yGf_clause (toNat_lt (by decide))) (Nat.le_trans (Nat.le_of_ble_eq_true rfl) hRf) (Nat.le_trans (Nat.le_of_ble_eq_true rfl) hRl) rfl hl.1 (Nat.le_of_ble_eq_true rfl) rfl dX3_isInduced_95 (fun u H locs h hw => ?_)
        refine lv_aload_n hx hb dX3_isInduced_98 rfl (lv_at hl 0 rfl) ?_
        refine yg_3_53 X hw dX3_isInduced_99 ?_
        refine lv_aload_n hx hb dX3_isInduced_102 rfl (lv_at hl 0 rfl) ?_
        refine yg_3_30 X hw dX3_isInduced_103 ?_
        refine lv_aload_n hx hb dX3_isInduced_106 rfl (lv_at hl 0 rfl) ?_
        refine yg_3_41 X hw dX3_isInduced_107 ?_
        refine yg_3_212 X hw dX3_isInduced_110 ?_
        refine lv_iload hx hb dX3_isInduced_113 (lv_at hl 4 rfl) ?_
        refine yl_1 X hw rx6 dX3_isInduced_115 h (fun v11 rv11 h => ?_)
        refine lv_aload_n hx hb dX3_isInduced_116 rfl (lv_at hl 0 rfl) ?_
        refine yg_3_37 X hw dX3_isInduced_117 ?_
        refine lv_iload hx hb dX3_isInduced_120 (lv_at hl 3 rfl) ?_
        refine ycI (n := 1) (e_7_right rx5 h) 7 6 (r := (RX7, TX7, 9)) rfl yG_3_131 yD_7_right X hw rfl yGo_7 (Nat.le_trans (Nat.le_of_ble_eq_true rfl) hRf) (Nat.le_trans (Nat.le_of_ble_eq_true rfl) hRl) rfl hl.1 (Nat.le_of_ble_eq_true rfl) rfl dX3_isInduced_122 (fun v12 u H locs rv12 h hw => ?_)
        refine ycV (n := 3) (e_8_addRulers (by decide) rv11 rv12 h) 8 7 (r := (RX8, TX8, 11)) rfl yG_3_266 yD_8_addRulers X hw rfl yGo_8 (Nat.le_trans (Nat.le_of_ble_eq_true rfl) hRf) (Nat.le_trans (Nat.le_of_ble_eq_true rfl) hRl) rfl hl.1 (Nat.le_of_ble_eq_true rfl) rfl dX3_isInduced_125 (fun u H locs h hw => ?_)
        refine lv_aload_n hx hb dX3_isInduced_128 rfl (lv_at hl 0 rfl) ?_
        refine yg_3_53 X hw dX3_isInduced_129 ?_
        refine lv_aload_n hx hb dX3_isInduced_132 rfl (lv_at hl 0 rfl) ?_
        refine yg_3_30 X hw dX3_isInduced_133 ?_
        refine lv_iload hx hb dX3_isInduced_136 (lv_at hl 2 rfl) ?_
        refine lv_iload hx hb dX3_isInduced_138 (lv_at hl 4 rfl) ?_
        refine lv_aload_n hx hb dX3_isInduced_140 rfl (lv_at hl 0 rfl) ?_
        refine yg_3_37 X hw dX3_isInduced_141 ?_
        refine lv_iload hx hb dX3_isInduced_144 (lv_at hl 3 rfl) ?_
        refine ycI (n := 1) (e_7_right rx5 h) 7 6 (r := (RX7, TX7, 9)) rfl yG_3_131 yD_7_right X hw rfl yGo_7 (Nat.le_trans (Nat.le_of_ble_eq_true rfl) hRf) (Nat.le_trans (Nat.le_of_ble_eq_true rfl) hRl) rfl hl.1 (Nat.le_of_ble_eq_true rfl) rfl dX3_isInduced_146 (fun v14 u H locs rv14 h hw => ?_)
        refine ycV (n := 4) (e_8_addInductionHypotheses (by decide) rx4 rx6 rv14 h) 8 7 (r := (RX8, TX8, 11)) rfl yG_3_269 yD_8_addInductionHypotheses X hw rfl yGo_8 (Nat.le_trans (Nat.le_of_ble_eq_true rfl) hRf) (Nat.le_trans (Nat.le_of_ble_eq_true rfl) hRl) rfl hl.1 (Nat.le_of_ble_eq_true rfl) rfl dX3_isInduced_149 (fun u H locs h hw => ?_)
        refine lv_aload_n hx hb dX3_isInduced_152 rfl (lv_at hl 0 rfl) ?_
        refine yg_3_45 X hw dX3_isInduced_153 ?_
        refine lv_aload_n hx hb dX3_isInduced_156 rfl (lv_at hl 0 rfl) ?_
        refine yg_3_30 X hw dX3_isInduced_157 ?_
        refine lv_iload hx hb dX3_isInduced_160 (lv_at hl 2 rfl) ?_
        refine ycV (n := 2) (e_10_join (by decide) rx4 h) 10 8 (r := (RX10, TX10, 16)) rfl yG_3_183 yD_10_join X hw rfl yGo_10 (Nat.le_trans (Nat.le_of_ble_eq_true rfl) hRf) (Nat.le_trans (Nat.le_of_ble_eq_true rfl) hRl) rfl hl.1 (Nat.le_of_ble_eq_true rfl) rfl dX3_isInduced_162 (fun u H locs h hw => ?_)
        refine lv_aload_n hx hb dX3_isInduced_165 rfl (lv_at hl 0 rfl) ?_
        refine yg_3_37 X hw dX3_isInduced_166 ?_
        refine yg_3_62 X hw dX3_isInduced_169 h (fun v17 rv17 h => ?_)
        refine k_if_ne hx hb rv17 dX3_isInduced_172 (tgt := 195) rfl h (fun h => ?_) (fun h => ?_)
        · exact f_3_isInduced_195 X hRf hRl hret hR67 rx1 rx4 rx5 rx6 rx8 hw (lv_sub hl [0, 1, 2, 3, 4, 6] rfl) h
        · refine lv_aload_n hx hb dX3_isInduced_175 rfl (lv_at hl 0 rfl) ?_
          refine lv_aload_n hx hb dX3_isInduced_176 rfl (lv_at hl 0 rfl) ?_
          refine yg_3_22 X hw dX3_isInduced_177 ?_
          refine lv_iload hx hb dX3_isInduced_180 (lv_at hl 6 rfl) ?_
          refine yx_7 X hw rx8 dX3_isInduced_182 h (fun v20 rv20 h => ?_)
          refine lv_aload_n hx hb dX3_isInduced_183 rfl (lv_at hl 0 rfl) ?_
          refine yg_3_30 X hw dX3_isInduced_184 ?_
          refine ycI (n := 2) (e_3_isWithin rv20 (by decide) h) 3 2 (r := (RX3, TX3, 11)) rfl yG_3_272 yD_3_isWithin X hw rfl yGo_3 (Nat.le_trans (Nat.le_of_ble_eq_true rfl) hRf) (Nat.le_trans (Nat.le_of_ble_eq_true rfl) hRl) rfl hl.1 (Nat.le_of_ble_eq_true rfl) rfl dX3_isInduced_187 (fun v21 u H locs rv21 h hw => ?_)
          refine k_if_ne hx hb rv21 dX3_isInduced_190 (tgt := 195) rfl h (fun h => ?_) (fun h => ?_)
          · exact f_3_isInduced_195 X hRf hRl hret hR67 rx1 rx4 rx5 rx6 rx8 hw (lv_sub hl [0, 1, 2, 3, 4, 6] rfl) h
          · refine lv_iconst hx hb dX3_isInduced_193 (v := jI 0) rfl ?_
            exact hret _ _ _ _ _ _ h.1 h.2 hw dX3_isInduced_194

def v_3_isInduced (a0 : Int) (a1 : Int) (a2 : Int) (Q : Int → iST → Prop) (u : iST) : Prop :=
  v_3_termAt a1 1 (fun v1 u => 
  v_7_item a1 2 (fun v2 u => 
  v_7_left v2 (fun v3 u => 
  v_0_functionOf v3 (fun v4 u => 
  br (v4 ≠ (-1)) (
    bd v4 40 (rd (u.2.1 3 v4) (fun v5 => 
    v_8_goToPath v5 (fun v6 u => 
    v_3_isInduced_67 Q a0 v1 v2 v4 v6 a2 u) u))) (
    zt 0 (Q 0 u))) u) u) u) u
set_option maxRecDepth 20000 in
set_option maxHeartbeats 4000000 in
theorem f_3_isInduced_s (X : yX RX3 p m c cX3_isInduced 9 s args D ca ad A) (hRf : 4 ≤ R.frames) (hRl : 103 ≤ R.locals) {Q : Int → iST → Prop} (hret : ∀ (v : Int) (u : iST) (H : Heap) (locs : List Loc) (ls : Array Slot) (pc : Nat), bz v → Q v u → yW D ca A ad s H locs u → decode cX3_isInduced pc = .ok (.ireturn, 1) → W p l e R s m args below meth c H locs 0 0 Qf (F0 m pc ls [.int (jI v)])) {a0 a1 a2 : Int} (ra0 : (0 ≤ a0 ∧ a0 < 408)) (ra1 : inR a1) (ra2 : inR a2) (hw : yW D ca A ad s H locs u) (hl : lv_has ls 9 [(0, .ref (ad 0 2)), (1, .ref (ad 4 a0.toNat)), (2, .int (jI a1)), (3, .int (jI a2))]) (h : v_3_isInduced a0 a1 a2 Q u) : W p l e R s m args below meth c H locs 0 0 Qf (F0 m 0 ls []) := by
  have hx := X.1.1
  have hb := X.1.2.1
  unfold v_3_isInduced at h
  refine lv_aload_n hx hb dX3_isInduced_0 rfl (lv_at hl 0 rfl) ?_
  refine lv_iload_n hx hb dX3_isInduced_1 rfl (lv_at hl 2 rfl) ?_
  refine lv_iconst hx hb dX3_isInduced_2 (v := jI 1) rfl ?_
  refine ycI (n := 2) (e_3_termAt ra1 (by decide) h) 3 2 (r := (RX3, TX3, 11)) rfl yG_3_109 yD_3_termAt X hw rfl yGo_3 (Nat.le_trans (Nat.le_of_ble_eq_true rfl) hRf) (Nat.le_trans (Nat.le_of_ble_eq_true rfl) hRl) rfl hl.1 (Nat.le_of_ble_eq_true rfl) rfl dX3_isInduced_3 (fun v1 u H locs rv1 h hw => ?_)
  refine lv_istore hx hb dX3_isInduced_6 hl (by decide) rfl (fun ls hl => ?_)
  have hl : lv_has ls 9 [(4, .int (jI v1)), (0, .ref (ad 0 2)), (1, .ref (ad 4 a0.toNat)), (2, .int (jI a1)), (3, .int (jI a2))] := hl
  refine lv_aload_n hx hb dX3_isInduced_8 rfl (lv_at hl 1 rfl) ?_
  refine yg_3_37 X hw dX3_isInduced_9 ?_
  refine lv_iload_n hx hb dX3_isInduced_12 rfl (lv_at hl 3 rfl) ?_
  refine lv_iconst hx hb dX3_isInduced_13 (v := jI 2) rfl ?_
  refine ycI (n := 2) (e_7_item ra1 (by decide) h) 7 6 (r := (RX7, TX7, 9)) rfl yG_3_67 yD_7_item X hw rfl yGo_7 (Nat.le_trans (Nat.le_of_ble_eq_true rfl) hRf) (Nat.le_trans (Nat.le_of_ble_eq_true rfl) hRl) rfl hl.1 (Nat.le_of_ble_eq_true rfl) rfl dX3_isInduced_14 (fun v2 u H locs rv2 h hw => ?_)
  refine lv_istore hx hb dX3_isInduced_17 hl (by decide) rfl (fun ls hl => ?_)
  have hl : lv_has ls 9 [(5, .int (jI v2)), (4, .int (jI v1)), (0, .ref (ad 0 2)), (1, .ref (ad 4 a0.toNat)), (2, .int (jI a1)), (3, .int (jI a2))] := hl
  refine lv_aload_n hx hb dX3_isInduced_19 rfl (lv_at hl 2 rfl) ?_
  refine yg_3_41 X hw dX3_isInduced_20 ?_
  refine lv_aload_n hx hb dX3_isInduced_23 rfl (lv_at hl 2 rfl) ?_
  refine yg_3_37 X hw dX3_isInduced_24 ?_
  refine lv_iload hx hb dX3_isInduced_27 (lv_at hl 0 rfl) ?_
  refine ycI (n := 1) (e_7_left rv2 h) 7 6 (r := (RX7, TX7, 9)) rfl yG_3_89 yD_7_left X hw rfl yGo_7 (Nat.le_trans (Nat.le_of_ble_eq_true rfl) hRf) (Nat.le_trans (Nat.le_of_ble_eq_true rfl) hRl) rfl hl.1 (Nat.le_of_ble_eq_true rfl) rfl dX3_isInduced_29 (fun v3 u H locs rv3 h hw => ?_)
  refine ycI (n := 1) (e_0_functionOf rv3 h) 0 0 (r := (RX0, TX0, 21)) rfl yG_3_120 yD_0_functionOf X hw rfl yGo_0 (Nat.le_trans (Nat.le_of_ble_eq_true rfl) hRf) (Nat.le_trans (Nat.le_of_ble_eq_true rfl) hRl) rfl hl.1 (Nat.le_of_ble_eq_true rfl) rfl dX3_isInduced_32 (fun v4 u H locs rv4 h hw => ?_)
  refine lv_istore hx hb dX3_isInduced_35 hl (by decide) rfl (fun ls hl => ?_)
  have hl : lv_has ls 9 [(6, .int (jI v4)), (5, .int (jI v2)), (4, .int (jI v1)), (0, .ref (ad 0 2)), (1, .ref (ad 4 a0.toNat)), (2, .int (jI a1)), (3, .int (jI a2))] := hl
  refine lv_iload hx hb dX3_isInduced_37 (lv_at hl 0 rfl) ?_
  refine lv_iconst hx hb dX3_isInduced_39 (v := jI (-1)) rfl ?_
  refine k_icmp_ne hx hb rv4 (by decide) dX3_isInduced_40 (tgt := 45) rfl h (fun h => ?_) (fun h => ?_)
  · refine lv_aload_n hx hb dX3_isInduced_45 rfl (lv_at hl 3 rfl) ?_
    refine yg_3_53 X hw dX3_isInduced_46 ?_
    refine lv_aload_n hx hb dX3_isInduced_49 rfl (lv_at hl 3 rfl) ?_
    refine yg_3_41 X hw dX3_isInduced_50 ?_
    refine yg_3_163 X hw dX3_isInduced_53 ?_
    refine lv_iload hx hb dX3_isInduced_56 (lv_at hl 0 rfl) ?_
    refine yl_3 X hw rv4 dX3_isInduced_58 h (fun v5 rv5 h => ?_)
    refine ycI (n := 1) (e_8_goToPath rv5 h) 8 7 (r := (RX8, TX8, 11)) rfl yG_3_263 yD_8_goToPath X hw rfl yGo_8 (Nat.le_trans (Nat.le_of_ble_eq_true rfl) hRf) (Nat.le_trans (Nat.le_of_ble_eq_true rfl) hRl) rfl hl.1 (Nat.le_of_ble_eq_true rfl) rfl dX3_isInduced_59 (fun v6 u H locs rv6 h hw => ?_)
    refine lv_istore hx hb dX3_isInduced_62 hl (by decide) rfl (fun ls hl => ?_)
    have hl : lv_has ls 9 [(7, .int (jI v6)), (6, .int (jI v4)), (5, .int (jI v2)), (4, .int (jI v1)), (0, .ref (ad 0 2)), (1, .ref (ad 4 a0.toNat)), (2, .int (jI a1)), (3, .int (jI a2))] := hl
    refine lv_iload_n hx hb dX3_isInduced_64 rfl (lv_at hl 7 rfl) ?_
    refine lv_istore hx hb dX3_isInduced_65 hl (by decide) rfl (fun ls hl => ?_)
    have hl : lv_has ls 9 [(8, .int (jI a2)), (7, .int (jI v6)), (6, .int (jI v4)), (5, .int (jI v2)), (4, .int (jI v1)), (0, .ref (ad 0 2)), (1, .ref (ad 4 a0.toNat)), (2, .int (jI a1)), (3, .int (jI a2))] := hl
    exact f_3_isInduced_67 X hRf hRl hret ra0 rv1 rv2 rv4 rv6 ra2 hw (lv_sub hl [5, 6, 4, 3, 2, 1, 0] rfl) h
  · refine lv_iconst hx hb dX3_isInduced_43 (v := jI 0) rfl ?_
    exact hret _ _ _ _ _ _ h.1 h.2 hw dX3_isInduced_44

end
theorem e_3_isInduced {l : Launch} {a0 : Int} {a1 : Int} {a2 : Int} (ra0 : (0 ≤ a0 ∧ a0 < 408)) (ra1 : inR a1) (ra2 : inR a2) {Q : Int → iST → Prop} {u : iST} (h : v_3_isInduced a0 a1 a2 Q u) : yMI l yX3_isInduced (.code yX3_isInduced cX3_isInduced 9 (some .boolean) :: wsN) { frames := 4, cells := 0, slots := 0, locals := 103 } (fun ad => [.ref (ad 0 2), .ref (ad 4 a0.toNat), .int (jI a1), .int (jI a2)]) Q u := yMZ_of (own := RX3) rfl (by decide +kernel) (fun _ => Nat.le_of_ble_eq_true rfl) (fun X hRf hRl hret hw hl => f_3_isInduced_s X hRf hRl hret ra0 ra1 ra2 hw hl h)

/-! ProofHouse$Proofs.concludeWeak -/
theorem dX3_concludeWeak_0 : decode cX3_concludeWeak 0 = .ok (.aload_n 1, 1) := by decide +kernel
theorem dX3_concludeWeak_1 : decode cX3_concludeWeak 1 = .ok (.aload_n 2, 1) := by decide +kernel
theorem dX3_concludeWeak_2 : decode cX3_concludeWeak 2 = .ok (.invokevirtual 253, 3) := by decide +kernel
theorem dX3_concludeWeak_5 : decode cX3_concludeWeak 5 = .ok (.iload_n 3, 1) := by decide +kernel
theorem dX3_concludeWeak_6 : decode cX3_concludeWeak 6 = .ok (.istore 4, 2) := by decide +kernel
theorem dX3_concludeWeak_8 : decode cX3_concludeWeak 8 = .ok (.aload_n 0, 1) := by decide +kernel
theorem dX3_concludeWeak_9 : decode cX3_concludeWeak 9 = .ok (.getfield 37, 3) := by decide +kernel
theorem dX3_concludeWeak_12 : decode cX3_concludeWeak 12 = .ok (.iload 4, 2) := by decide +kernel
theorem dX3_concludeWeak_14 : decode cX3_concludeWeak 14 = .ok (.invokevirtual 155, 3) := by decide +kernel
theorem dX3_concludeWeak_17 : decode cX3_concludeWeak 17 = .ok (.ifCond .eq 42, 3) := by decide +kernel
theorem dX3_concludeWeak_20 : decode cX3_concludeWeak 20 = .ok (.aload_n 0, 1) := by decide +kernel
theorem dX3_concludeWeak_21 : decode cX3_concludeWeak 21 = .ok (.getfield 45, 3) := by decide +kernel
theorem dX3_concludeWeak_24 : decode cX3_concludeWeak 24 = .ok (.aload_n 1, 1) := by decide +kernel
theorem dX3_concludeWeak_25 : decode cX3_concludeWeak 25 = .ok (.aload_n 0, 1) := by decide +kernel
theorem dX3_concludeWeak_26 : decode cX3_concludeWeak 26 = .ok (.getfield 45, 3) := by decide +kernel
theorem dX3_concludeWeak_29 : decode cX3_concludeWeak 29 = .ok (.aload_n 0, 1) := by decide +kernel
theorem dX3_concludeWeak_30 : decode cX3_concludeWeak 30 = .ok (.getfield 37, 3) := by decide +kernel
theorem dX3_concludeWeak_33 : decode cX3_concludeWeak 33 = .ok (.iload 4, 2) := by decide +kernel
theorem dX3_concludeWeak_35 : decode cX3_concludeWeak 35 = .ok (.invokevirtual 89, 3) := by decide +kernel
theorem dX3_concludeWeak_38 : decode cX3_concludeWeak 38 = .ok (.iconst 0, 1) := by decide +kernel
theorem dX3_concludeWeak_39 : decode cX3_concludeWeak 39 = .ok (.invokevirtual 112, 3) := by decide +kernel
theorem dX3_concludeWeak_42 : decode cX3_concludeWeak 42 = .ok (.invokevirtual 183, 3) := by decide +kernel
theorem dX3_concludeWeak_45 : decode cX3_concludeWeak 45 = .ok (.aload_n 0, 1) := by decide +kernel
theorem dX3_concludeWeak_46 : decode cX3_concludeWeak 46 = .ok (.getfield 37, 3) := by decide +kernel
theorem dX3_concludeWeak_49 : decode cX3_concludeWeak 49 = .ok (.iload 4, 2) := by decide +kernel
theorem dX3_concludeWeak_51 : decode cX3_concludeWeak 51 = .ok (.invokevirtual 131, 3) := by decide +kernel
theorem dX3_concludeWeak_54 : decode cX3_concludeWeak 54 = .ok (.istore 4, 2) := by decide +kernel
theorem dX3_concludeWeak_56 : decode cX3_concludeWeak 56 = .ok (.goto (-48), 3) := by decide +kernel
theorem dX3_concludeWeak_59 : decode cX3_concludeWeak 59 = .ok (.return_, 1) := by decide +kernel

section
variable {p : Program} {l : Launch} {e : Env} {R : Room} {s : State} {m : MethodId} {args : Array Value} {below : List Frame} {meth : Method} {c : Code} {H : Heap} {locs : List Loc} {Qf : State → Prop}
variable {ls : Array Slot} {D : va_G} {ca : Nat → ClassId} {A : Nat → Prop} {ad : Nat → Nat → Nat} {u : iST}
def v_3_concludeWeak_8b (R8 : Int → Int → iST → Prop) (Q : iST → Prop) (x1 : Int) (x4 : Int) (u : iST) : Prop :=
  v_7_isPair x4 (fun v2 u => 
  br (v2 = 0) (
    Q u) (
    v_7_left x4 (fun v3 u => 
    v_10_rebuilt v3 0 (fun v4 u => 
    v_10_join x1 v4 (fun u => 
    v_7_right x4 (fun v6 u => 
    R8 x1 v6 u) u) u) u) u)) u
def v_3_concludeWeak_8 (Q : iST → Prop) (x1 : Int) (x4 : Int) (u : iST) : Prop := ∀ R8 : Int → Int → iST → Prop, (∀ (x1 : Int) (x4 : Int) (u : iST), v_3_concludeWeak_8b R8 Q x1 x4 u → R8 x1 x4 u) → R8 x1 x4 u
set_option maxRecDepth 20000 in
set_option maxHeartbeats 4000000 in
theorem f_3_concludeWeak_8 (X : yX RX3 p m c cX3_concludeWeak 5 s args D ca ad A) (hRf : 3 ≤ R.frames) (hRl : 81 ≤ R.locals) {Q : iST → Prop} (hret : ∀ (u : iST) (H : Heap) (locs : List Loc) (ls : Array Slot) (pc : Nat), Q u → yW D ca A ad s H locs u → decode cX3_concludeWeak pc = .ok (.return_, 1) → W p l e R s m args below meth c H locs 0 0 Qf (F0 m pc ls [])) {x1 x4 : Int} (rx1 : (0 ≤ x1 ∧ x1 < 408)) (rx4 : inR x4) (hw : yW D ca A ad s H locs u) (hl : lv_has ls 5 [(0, .ref (ad 0 2)), (1, .ref (ad 4 x1.toNat)), (4, .int (jI x4))]) (h : v_3_concludeWeak_8 Q x1 x4 u) : W p l e R s m args below meth c H locs 0 0 Qf (F0 m 8 ls []) := by
  refine h (fun x1 x4 u => ∀ (H : Heap) (locs : List Loc) (ls : Array Slot), (0 ≤ x1 ∧ x1 < 408) → inR x4 → yW D ca A ad s H locs u → lv_has ls 5 [(0, .ref (ad 0 2)), (1, .ref (ad 4 x1.toNat)), (4, .int (jI x4))] → W p l e R s m args below meth c H locs 0 0 Qf (F0 m 8 ls [])) ?_ H locs ls rx1 rx4 hw hl
  clear h hl hw rx1 rx4
  intro x1 x4 u h H locs ls rx1 rx4 hw hl
  have hR8 : ∀ (x1 : Int) (x4 : Int) (u : iST) (H : Heap) (locs : List Loc) (ls : Array Slot), (0 ≤ x1 ∧ x1 < 408) → inR x4 → yW D ca A ad s H locs u → lv_has ls 5 [(0, .ref (ad 0 2)), (1, .ref (ad 4 x1.toNat)), (4, .int (jI x4))] → (fun (x1 : Int) (x4 : Int) u => ∀ (H : Heap) (locs : List Loc) (ls : Array Slot), (0 ≤ x1 ∧ x1 < 408) → inR x4 → yW D ca A ad s H locs u → lv_has ls 5 [(0, .ref (ad 0 2)), (1, .ref (ad 4 x1.toNat)), (4, .int (jI x4))] → W p l e R s m args below meth c H locs 0 0 Qf (F0 m 8 ls [])) x1 x4 u → W p l e R s m args below meth c H locs 0 0 Qf (F0 m 8 ls []) := fun x1 x4 u H locs ls rx1 rx4 hw hl h => h H locs ls rx1 rx4 hw hl
  have hx := X.1.1
  have hb := X.1.2.1
  unfold v_3_concludeWeak_8b at h
  refine lv_aload_n hx hb dX3_concludeWeak_8 rfl (lv_at hl 0 rfl) ?_
  refine yg_3_37 X hw dX3_concludeWeak_9 ?_
  refine lv_iload hx hb dX3_concludeWeak_12 (lv_at hl 2 rfl) ?_
  refine ycI (n := 1) (e_7_isPair rx4 h) 7 6 (r := (RX7, TX7, 9)) rfl yG_3_155 yD_7_isPair X hw rfl yGo_7 (Nat.le_trans (Nat.le_of_ble_eq_true rfl) hRf) (Nat.le_trans (Nat.le_of_ble_eq_true rfl) hRl) rfl hl.1 (Nat.le_of_ble_eq_true rfl) rfl dX3_concludeWeak_14 (fun v2 u H locs rv2 h hw => ?_)
  refine k_if_eq hx hb rv2 dX3_concludeWeak_17 (tgt := 59) rfl h (fun h => ?_) (fun h => ?_)
  · exact hret _ _ _ _ _ h hw dX3_concludeWeak_59
  · refine lv_aload_n hx hb dX3_concludeWeak_20 rfl (lv_at hl 0 rfl) ?_
    refine yg_3_45 X hw dX3_concludeWeak_21 ?_
    refine lv_aload_n hx hb dX3_concludeWeak_24 rfl (lv_at hl 1 rfl) ?_
    refine lv_aload_n hx hb dX3_concludeWeak_25 rfl (lv_at hl 0 rfl) ?_
    refine yg_3_45 X hw dX3_concludeWeak_26 ?_
    refine lv_aload_n hx hb dX3_concludeWeak_29 rfl (lv_at hl 0 rfl) ?_
    refine yg_3_37 X hw dX3_concludeWeak_30 ?_
    refine lv_iload hx hb dX3_concludeWeak_33 (lv_at hl 2 rfl) ?_
    refine ycI (n := 1) (e_7_left rx4 h) 7 6 (r := (RX7, TX7, 9)) rfl yG_3_89 yD_7_left X hw rfl yGo_7 (Nat.le_trans (Nat.le_of_ble_eq_true rfl) hRf) (Nat.le_trans (Nat.le_of_ble_eq_true rfl) hRl) rfl hl.1 (Nat.le_of_ble_eq_true rfl) rfl dX3_concludeWeak_35 (fun v3 u H locs rv3 h hw => ?_)
    refine lv_iconst hx hb dX3_concludeWeak_38 (v := jI 0) rfl ?_
    refine ycI (n := 2) (e_10_rebuilt rv3 (by decide) h) 10 8 (r := (RX10, TX10, 16)) rfl yG_3_112 yD_10_rebuilt X hw rfl yGo_10 (Nat.le_trans (Nat.le_of_ble_eq_true rfl) hRf) (Nat.le_trans (Nat.le_of_ble_eq_true rfl) hRl) rfl hl.1 (Nat.le_of_ble_eq_true rfl) rfl dX3_concludeWeak_39 (fun v4 u H locs rv4 h hw => ?_)
    refine ycV (n := 2) (e_10_join rx1 rv4 h) 10 8 (r := (RX10, TX10, 16)) rfl yG_3_183 yD_10_join X hw rfl yGo_10 (Nat.le_trans (Nat.le_of_ble_eq_true rfl) hRf) (Nat.le_trans (Nat.le_of_ble_eq_true rfl) hRl) rfl hl.1 (Nat.le_of_ble_eq_true rfl) rfl dX3_concludeWeak_42 (fun u H locs h hw => ?_)
    refine lv_aload_n hx hb dX3_concludeWeak_45 rfl (lv_at hl 0 rfl) ?_
    refine yg_3_37 X hw dX3_concludeWeak_46 ?_
    refine lv_iload hx hb dX3_concludeWeak_49 (lv_at hl 2 rfl) ?_
    refine ycI (n := 1) (e_7_right rx4 h) 7 6 (r := (RX7, TX7, 9)) rfl yG_3_131 yD_7_right X hw rfl yGo_7 (Nat.le_trans (Nat.le_of_ble_eq_true rfl) hRf) (Nat.le_trans (Nat.le_of_ble_eq_true rfl) hRl) rfl hl.1 (Nat.le_of_ble_eq_true rfl) rfl dX3_concludeWeak_51 (fun v6 u H locs rv6 h hw => ?_)
    refine lv_istore hx hb dX3_concludeWeak_54 hl (by decide) rfl (fun ls hl => ?_)
    have hl : lv_has ls 5 [(4, .int (jI v6)), (0, .ref (ad 0 2)), (1, .ref (ad 4 x1.toNat))] := hl
    refine lv_goto hx hb dX3_concludeWeak_56 (tgt := 8) rfl ?_
    exact hR8 _ _ _ H locs ls rx1 rv6 hw (lv_sub hl [1, 2, 0] rfl) h

def v_3_concludeWeak (a0 : Int) (a1 : Int) (a2 : Int) (Q : iST → Prop) (u : iST) : Prop :=
  v_1_copy a0 a1 (fun u => 
  v_3_concludeWeak_8 Q a0 a2 u) u
set_option maxRecDepth 20000 in
set_option maxHeartbeats 4000000 in
theorem f_3_concludeWeak_s (X : yX RX3 p m c cX3_concludeWeak 5 s args D ca ad A) (hRf : 3 ≤ R.frames) (hRl : 81 ≤ R.locals) {Q : iST → Prop} (hret : ∀ (u : iST) (H : Heap) (locs : List Loc) (ls : Array Slot) (pc : Nat), Q u → yW D ca A ad s H locs u → decode cX3_concludeWeak pc = .ok (.return_, 1) → W p l e R s m args below meth c H locs 0 0 Qf (F0 m pc ls [])) {a0 a1 a2 : Int} (ra0 : (0 ≤ a0 ∧ a0 < 408)) (ra1 : (0 ≤ a1 ∧ a1 < 408)) (ra2 : inR a2) (hw : yW D ca A ad s H locs u) (hl : lv_has ls 5 [(0, .ref (ad 0 2)), (1, .ref (ad 4 a0.toNat)), (2, .ref (ad 4 a1.toNat)), (3, .int (jI a2))]) (h : v_3_concludeWeak a0 a1 a2 Q u) : W p l e R s m args below meth c H locs 0 0 Qf (F0 m 0 ls []) := by
  have hx := X.1.1
  have hb := X.1.2.1
  unfold v_3_concludeWeak at h
  refine lv_aload_n hx hb dX3_concludeWeak_0 rfl (lv_at hl 1 rfl) ?_
  refine lv_aload_n hx hb dX3_concludeWeak_1 rfl (lv_at hl 2 rfl) ?_
  refine ycV (n := 1) (e_1_copy ra0 ra1 h) 1 (65 + a0.toNat) (r := (RX1, TX1, 4)) rfl yG_3_253 yD_1_copy X hw rfl (yGf_clause (toNat_lt ra0)) (Nat.le_trans (Nat.le_of_ble_eq_true rfl) hRf) (Nat.le_trans (Nat.le_of_ble_eq_true rfl) hRl) rfl hl.1 (Nat.le_of_ble_eq_true rfl) rfl dX3_concludeWeak_2 (fun u H locs h hw => ?_)
  refine lv_iload_n hx hb dX3_concludeWeak_5 rfl (lv_at hl 3 rfl) ?_
  refine lv_istore hx hb dX3_concludeWeak_6 hl (by decide) rfl (fun ls hl => ?_)
  have hl : lv_has ls 5 [(4, .int (jI a2)), (0, .ref (ad 0 2)), (1, .ref (ad 4 a0.toNat)), (2, .ref (ad 4 a1.toNat)), (3, .int (jI a2))] := hl
  exact f_3_concludeWeak_8 X hRf hRl hret ra0 ra2 hw (lv_sub hl [1, 2, 0] rfl) h

end
theorem e_3_concludeWeak {l : Launch} {a0 : Int} {a1 : Int} {a2 : Int} (ra0 : (0 ≤ a0 ∧ a0 < 408)) (ra1 : (0 ≤ a1 ∧ a1 < 408)) (ra2 : inR a2) {Q : iST → Prop} {u : iST} (h : v_3_concludeWeak a0 a1 a2 Q u) : yMV l yX3_concludeWeak (.code yX3_concludeWeak cX3_concludeWeak 5 none :: wsN) { frames := 3, cells := 0, slots := 0, locals := 81 } (fun ad => [.ref (ad 0 2), .ref (ad 4 a0.toNat), .ref (ad 4 a1.toNat), .int (jI a2)]) Q u := yMV_of (own := RX3) rfl (by decide +kernel) (fun _ => Nat.le_of_ble_eq_true rfl) (fun X hRf hRl hret hw hl => f_3_concludeWeak_s X hRf hRl hret ra0 ra1 ra2 hw hl h)

/-! ProofHouse$Terms.isNegation -/
theorem dX10_isNegation_0 : decode cX10_isNegation 0 = .ok (.aload_n 0, 1) := by decide +kernel
theorem dX10_isNegation_1 : decode cX10_isNegation 1 = .ok (.getfield 55, 3) := by decide +kernel
theorem dX10_isNegation_4 : decode cX10_isNegation 4 = .ok (.iload_n 2, 1) := by decide +kernel
theorem dX10_isNegation_5 : decode cX10_isNegation 5 = .ok (.bipush 16, 2) := by decide +kernel
theorem dX10_isNegation_7 : decode cX10_isNegation 7 = .ok (.invokevirtual 139, 3) := by decide +kernel
theorem dX10_isNegation_10 : decode cX10_isNegation 10 = .ok (.ifCond .eq 22, 3) := by decide +kernel
theorem dX10_isNegation_13 : decode cX10_isNegation 13 = .ok (.iload_n 1, 1) := by decide +kernel
theorem dX10_isNegation_14 : decode cX10_isNegation 14 = .ok (.aload_n 0, 1) := by decide +kernel
theorem dX10_isNegation_15 : decode cX10_isNegation 15 = .ok (.getfield 55, 3) := by decide +kernel
theorem dX10_isNegation_18 : decode cX10_isNegation 18 = .ok (.iload_n 2, 1) := by decide +kernel
theorem dX10_isNegation_19 : decode cX10_isNegation 19 = .ok (.iconst 1, 1) := by decide +kernel
theorem dX10_isNegation_20 : decode cX10_isNegation 20 = .ok (.invokevirtual 133, 3) := by decide +kernel
theorem dX10_isNegation_23 : decode cX10_isNegation 23 = .ok (.if_icmp .ne 7, 3) := by decide +kernel
theorem dX10_isNegation_26 : decode cX10_isNegation 26 = .ok (.iconst 1, 1) := by decide +kernel
theorem dX10_isNegation_27 : decode cX10_isNegation 27 = .ok (.goto 4, 3) := by decide +kernel
theorem dX10_isNegation_30 : decode cX10_isNegation 30 = .ok (.iconst 0, 1) := by decide +kernel
theorem dX10_isNegation_31 : decode cX10_isNegation 31 = .ok (.ireturn, 1) := by decide +kernel
theorem dX10_isNegation_32 : decode cX10_isNegation 32 = .ok (.aload_n 0, 1) := by decide +kernel
theorem dX10_isNegation_33 : decode cX10_isNegation 33 = .ok (.getfield 55, 3) := by decide +kernel
theorem dX10_isNegation_36 : decode cX10_isNegation 36 = .ok (.iload_n 2, 1) := by decide +kernel
theorem dX10_isNegation_37 : decode cX10_isNegation 37 = .ok (.invokevirtual 142, 3) := by decide +kernel
theorem dX10_isNegation_40 : decode cX10_isNegation 40 = .ok (.ifCond .eq 22, 3) := by decide +kernel
theorem dX10_isNegation_43 : decode cX10_isNegation 43 = .ok (.iload_n 1, 1) := by decide +kernel
theorem dX10_isNegation_44 : decode cX10_isNegation 44 = .ok (.iload_n 2, 1) := by decide +kernel
theorem dX10_isNegation_45 : decode cX10_isNegation 45 = .ok (.ifCond .ne 7, 3) := by decide +kernel
theorem dX10_isNegation_48 : decode cX10_isNegation 48 = .ok (.iconst 1, 1) := by decide +kernel
theorem dX10_isNegation_49 : decode cX10_isNegation 49 = .ok (.goto 4, 3) := by decide +kernel
theorem dX10_isNegation_52 : decode cX10_isNegation 52 = .ok (.iconst 0, 1) := by decide +kernel
theorem dX10_isNegation_53 : decode cX10_isNegation 53 = .ok (.if_icmp .ne 7, 3) := by decide +kernel
theorem dX10_isNegation_56 : decode cX10_isNegation 56 = .ok (.iconst 1, 1) := by decide +kernel
theorem dX10_isNegation_57 : decode cX10_isNegation 57 = .ok (.goto 4, 3) := by decide +kernel
theorem dX10_isNegation_60 : decode cX10_isNegation 60 = .ok (.iconst 0, 1) := by decide +kernel
theorem dX10_isNegation_61 : decode cX10_isNegation 61 = .ok (.ireturn, 1) := by decide +kernel
theorem dX10_isNegation_62 : decode cX10_isNegation 62 = .ok (.aload_n 0, 1) := by decide +kernel
theorem dX10_isNegation_63 : decode cX10_isNegation 63 = .ok (.getfield 55, 3) := by decide +kernel
theorem dX10_isNegation_66 : decode cX10_isNegation 66 = .ok (.iload_n 1, 1) := by decide +kernel
theorem dX10_isNegation_67 : decode cX10_isNegation 67 = .ok (.bipush 16, 2) := by decide +kernel
theorem dX10_isNegation_69 : decode cX10_isNegation 69 = .ok (.invokevirtual 139, 3) := by decide +kernel
theorem dX10_isNegation_72 : decode cX10_isNegation 72 = .ok (.ifCond .eq 20, 3) := by decide +kernel
theorem dX10_isNegation_75 : decode cX10_isNegation 75 = .ok (.aload_n 0, 1) := by decide +kernel
theorem dX10_isNegation_76 : decode cX10_isNegation 76 = .ok (.getfield 55, 3) := by decide +kernel
theorem dX10_isNegation_79 : decode cX10_isNegation 79 = .ok (.iload_n 1, 1) := by decide +kernel
theorem dX10_isNegation_80 : decode cX10_isNegation 80 = .ok (.iconst 1, 1) := by decide +kernel
theorem dX10_isNegation_81 : decode cX10_isNegation 81 = .ok (.invokevirtual 133, 3) := by decide +kernel
theorem dX10_isNegation_84 : decode cX10_isNegation 84 = .ok (.iload_n 2, 1) := by decide +kernel
theorem dX10_isNegation_85 : decode cX10_isNegation 85 = .ok (.if_icmp .ne 7, 3) := by decide +kernel
theorem dX10_isNegation_88 : decode cX10_isNegation 88 = .ok (.iconst 1, 1) := by decide +kernel
theorem dX10_isNegation_89 : decode cX10_isNegation 89 = .ok (.goto 4, 3) := by decide +kernel
theorem dX10_isNegation_92 : decode cX10_isNegation 92 = .ok (.iconst 0, 1) := by decide +kernel
theorem dX10_isNegation_93 : decode cX10_isNegation 93 = .ok (.ireturn, 1) := by decide +kernel

section
variable {p : Program} {l : Launch} {e : Env} {R : Room} {s : State} {m : MethodId} {args : Array Value} {below : List Frame} {meth : Method} {c : Code} {H : Heap} {locs : List Loc} {Qf : State → Prop}
variable {ls : Array Slot} {D : va_G} {ca : Nat → ClassId} {A : Nat → Prop} {ad : Nat → Nat → Nat} {u : iST}
def v_10_isNegation_53 (Q : Int → iST → Prop) (y0 : Int) (y1 : Int) (u : iST) : Prop :=
  br (y0 ≠ y1) (
    zt 0 (Q 0 u)) (
    zt 1 (Q 1 u))
set_option maxRecDepth 20000 in
set_option maxHeartbeats 4000000 in
theorem f_10_isNegation_53 (X : yX RX10 p m c cX10_isNegation 3 s args D ca ad A) (hRf : 1 ≤ R.frames) (hRl : 24 ≤ R.locals) {Q : Int → iST → Prop} (hret : ∀ (v : Int) (u : iST) (H : Heap) (locs : List Loc) (ls : Array Slot) (pc : Nat), bz v → Q v u → yW D ca A ad s H locs u → decode cX10_isNegation pc = .ok (.ireturn, 1) → W p l e R s m args below meth c H locs 0 0 Qf (F0 m pc ls [.int (jI v)])) {y0 y1 : Int} (ry0 : inR y0) (ry1 : inR y1) (hw : yW D ca A ad s H locs u) (hl : lv_has ls 3 [(0, .ref (ad 0 8))]) (h : v_10_isNegation_53 Q y0 y1 u) : W p l e R s m args below meth c H locs 0 0 Qf (F0 m 53 ls [.int (jI y1), .int (jI y0)]) := by
  have hx := X.1.1
  have hb := X.1.2.1
  unfold v_10_isNegation_53 at h
  refine k_icmp_ne hx hb ry0 ry1 dX10_isNegation_53 (tgt := 60) rfl h (fun h => ?_) (fun h => ?_)
  · refine lv_iconst hx hb dX10_isNegation_60 (v := jI 0) rfl ?_
    exact hret _ _ _ _ _ _ h.1 h.2 hw dX10_isNegation_61
  · refine lv_iconst hx hb dX10_isNegation_56 (v := jI 1) rfl ?_
    refine lv_goto hx hb dX10_isNegation_57 (tgt := 61) rfl ?_
    exact hret _ _ _ _ _ _ h.1 h.2 hw dX10_isNegation_61

def v_10_isNegation (a0 : Int) (a1 : Int) (Q : Int → iST → Prop) (u : iST) : Prop :=
  v_7_isCallOf a1 16 (fun v1 u => 
  br (v1 = 0) (
    v_7_isConstant a1 (fun v2 u => 
    br (v2 = 0) (
      v_7_isCallOf a0 16 (fun v3 u => 
      br (v3 = 0) (
        zt 0 (Q 0 u)) (
        v_7_item a0 1 (fun v4 u => 
        br (v4 ≠ a1) (
          zt 0 (Q 0 u)) (
          zt 1 (Q 1 u))) u)) u) (
      br (a1 ≠ 0) (
        v_10_isNegation_53 Q a0 0 u) (
        v_10_isNegation_53 Q a0 1 u))) u) (
    v_7_item a1 1 (fun v5 u => 
    br (a0 ≠ v5) (
      zt 0 (Q 0 u)) (
      zt 1 (Q 1 u))) u)) u
set_option maxRecDepth 20000 in
set_option maxHeartbeats 4000000 in
theorem f_10_isNegation_s (X : yX RX10 p m c cX10_isNegation 3 s args D ca ad A) (hRf : 1 ≤ R.frames) (hRl : 24 ≤ R.locals) {Q : Int → iST → Prop} (hret : ∀ (v : Int) (u : iST) (H : Heap) (locs : List Loc) (ls : Array Slot) (pc : Nat), bz v → Q v u → yW D ca A ad s H locs u → decode cX10_isNegation pc = .ok (.ireturn, 1) → W p l e R s m args below meth c H locs 0 0 Qf (F0 m pc ls [.int (jI v)])) {a0 a1 : Int} (ra0 : inR a0) (ra1 : inR a1) (hw : yW D ca A ad s H locs u) (hl : lv_has ls 3 [(0, .ref (ad 0 8)), (1, .int (jI a0)), (2, .int (jI a1))]) (h : v_10_isNegation a0 a1 Q u) : W p l e R s m args below meth c H locs 0 0 Qf (F0 m 0 ls []) := by
  have hx := X.1.1
  have hb := X.1.2.1
  unfold v_10_isNegation at h
  refine lv_aload_n hx hb dX10_isNegation_0 rfl (lv_at hl 0 rfl) ?_
  refine yg_10_55 X hw dX10_isNegation_1 ?_
  refine lv_iload_n hx hb dX10_isNegation_4 rfl (lv_at hl 2 rfl) ?_
  refine lv_bipush hx hb dX10_isNegation_5 (v := jI 16) rfl ?_
  refine ycI (n := 2) (e_7_isCallOf ra1 (by decide) h) 7 6 (r := (RX7, TX7, 9)) rfl yG_10_139 yD_7_isCallOf X hw rfl yGo_7 (Nat.le_trans (Nat.le_of_ble_eq_true rfl) hRf) (Nat.le_trans (Nat.le_of_ble_eq_true rfl) hRl) rfl hl.1 (Nat.le_of_ble_eq_true rfl) rfl dX10_isNegation_7 (fun v1 u H locs rv1 h hw => ?_)
  refine k_if_eq hx hb rv1 dX10_isNegation_10 (tgt := 32) rfl h (fun h => ?_) (fun h => ?_)
  · refine lv_aload_n hx hb dX10_isNegation_32 rfl (lv_at hl 0 rfl) ?_
    refine yg_10_55 X hw dX10_isNegation_33 ?_
    refine lv_iload_n hx hb dX10_isNegation_36 rfl (lv_at hl 2 rfl) ?_
    refine ycI (n := 1) (e_7_isConstant ra1 h) 7 6 (r := (RX7, TX7, 9)) rfl yG_10_142 yD_7_isConstant X hw rfl yGo_7 (Nat.le_trans (Nat.le_of_ble_eq_true rfl) hRf) (Nat.le_trans (Nat.le_of_ble_eq_true rfl) hRl) rfl hl.1 (Nat.le_of_ble_eq_true rfl) rfl dX10_isNegation_37 (fun v2 u H locs rv2 h hw => ?_)
    refine k_if_eq hx hb rv2 dX10_isNegation_40 (tgt := 62) rfl h (fun h => ?_) (fun h => ?_)
    · refine lv_aload_n hx hb dX10_isNegation_62 rfl (lv_at hl 0 rfl) ?_
      refine yg_10_55 X hw dX10_isNegation_63 ?_
      refine lv_iload_n hx hb dX10_isNegation_66 rfl (lv_at hl 1 rfl) ?_
      refine lv_bipush hx hb dX10_isNegation_67 (v := jI 16) rfl ?_
      refine ycI (n := 2) (e_7_isCallOf ra0 (by decide) h) 7 6 (r := (RX7, TX7, 9)) rfl yG_10_139 yD_7_isCallOf X hw rfl yGo_7 (Nat.le_trans (Nat.le_of_ble_eq_true rfl) hRf) (Nat.le_trans (Nat.le_of_ble_eq_true rfl) hRl) rfl hl.1 (Nat.le_of_ble_eq_true rfl) rfl dX10_isNegation_69 (fun v3 u H locs rv3 h hw => ?_)
      refine k_if_eq hx hb rv3 dX10_isNegation_72 (tgt := 92) rfl h (fun h => ?_) (fun h => ?_)
      · refine lv_iconst hx hb dX10_isNegation_92 (v := jI 0) rfl ?_
        exact hret _ _ _ _ _ _ h.1 h.2 hw dX10_isNegation_93
      · refine lv_aload_n hx hb dX10_isNegation_75 rfl (lv_at hl 0 rfl) ?_
        refine yg_10_55 X hw dX10_isNegation_76 ?_
        refine lv_iload_n hx hb dX10_isNegation_79 rfl (lv_at hl 1 rfl) ?_
        refine lv_iconst hx hb dX10_isNegation_80 (v := jI 1) rfl ?_
        refine ycI (n := 2) (e_7_item ra0 (by decide) h) 7 6 (r := (RX7, TX7, 9)) rfl yG_10_133 yD_7_item X hw rfl yGo_7 (Nat.le_trans (Nat.le_of_ble_eq_true rfl) hRf) (Nat.le_trans (Nat.le_of_ble_eq_true rfl) hRl) rfl hl.1 (Nat.le_of_ble_eq_true rfl) rfl dX10_isNegation_81 (fun v4 u H locs rv4 h hw => ?_)
        refine lv_iload_n hx hb dX10_isNegation_84 rfl (lv_at hl 2 rfl) ?_
        refine k_icmp_ne hx hb rv4 ra1 dX10_isNegation_85 (tgt := 92) rfl h (fun h => ?_) (fun h => ?_)
        · refine lv_iconst hx hb dX10_isNegation_92 (v := jI 0) rfl ?_
          exact hret _ _ _ _ _ _ h.1 h.2 hw dX10_isNegation_93
        · refine lv_iconst hx hb dX10_isNegation_88 (v := jI 1) rfl ?_
          refine lv_goto hx hb dX10_isNegation_89 (tgt := 93) rfl ?_
          exact hret _ _ _ _ _ _ h.1 h.2 hw dX10_isNegation_93
    · refine lv_iload_n hx hb dX10_isNegation_43 rfl (lv_at hl 1 rfl) ?_
      refine lv_iload_n hx hb dX10_isNegation_44 rfl (lv_at hl 2 rfl) ?_
      refine k_if_ne hx hb ra1 dX10_isNegation_45 (tgt := 52) rfl h (fun h => ?_) (fun h => ?_)
      · refine lv_iconst hx hb dX10_isNegation_52 (v := jI 0) rfl ?_
        exact f_10_isNegation_53 X hRf hRl hret ra0 (by decide) hw (lv_sub hl [0] rfl) h
      · refine lv_iconst hx hb dX10_isNegation_48 (v := jI 1) rfl ?_
        refine lv_goto hx hb dX10_isNegation_49 (tgt := 53) rfl ?_
        exact f_10_isNegation_53 X hRf hRl hret ra0 (by decide) hw (lv_sub hl [0] rfl) h
  · refine lv_iload_n hx hb dX10_isNegation_13 rfl (lv_at hl 1 rfl) ?_
    refine lv_aload_n hx hb dX10_isNegation_14 rfl (lv_at hl 0 rfl) ?_
    refine yg_10_55 X hw dX10_isNegation_15 ?_
    refine lv_iload_n hx hb dX10_isNegation_18 rfl (lv_at hl 2 rfl) ?_
    refine lv_iconst hx hb dX10_isNegation_19 (v := jI 1) rfl ?_
    refine ycI (n := 2) (e_7_item ra1 (by decide) h) 7 6 (r := (RX7, TX7, 9)) rfl yG_10_133 yD_7_item X hw rfl yGo_7 (Nat.le_trans (Nat.le_of_ble_eq_true rfl) hRf) (Nat.le_trans (Nat.le_of_ble_eq_true rfl) hRl) rfl hl.1 (Nat.le_of_ble_eq_true rfl) rfl dX10_isNegation_20 (fun v5 u H locs rv5 h hw => ?_)
    refine k_icmp_ne hx hb ra0 rv5 dX10_isNegation_23 (tgt := 30) rfl h (fun h => ?_) (fun h => ?_)
    · refine lv_iconst hx hb dX10_isNegation_30 (v := jI 0) rfl ?_
      exact hret _ _ _ _ _ _ h.1 h.2 hw dX10_isNegation_31
    · refine lv_iconst hx hb dX10_isNegation_26 (v := jI 1) rfl ?_
      refine lv_goto hx hb dX10_isNegation_27 (tgt := 31) rfl ?_
      exact hret _ _ _ _ _ _ h.1 h.2 hw dX10_isNegation_31

end
theorem e_10_isNegation {l : Launch} {a0 : Int} {a1 : Int} (ra0 : inR a0) (ra1 : inR a1) {Q : Int → iST → Prop} {u : iST} (h : v_10_isNegation a0 a1 Q u) : yMI l yX10_isNegation (.code yX10_isNegation cX10_isNegation 3 (some .boolean) :: wsN) { frames := 1, cells := 0, slots := 0, locals := 24 } (fun ad => [.ref (ad 0 8), .int (jI a0), .int (jI a1)]) Q u := yMZ_of (own := RX10) rfl (by decide +kernel) (fun _ => Nat.le_of_ble_eq_true rfl) (fun X hRf hRl hret hw hl => f_10_isNegation_s X hRf hRl hret ra0 ra1 hw hl h)

/-! ProofHouse$Proofs.joinAllBut -/
theorem dX3_joinAllBut_0 : decode cX3_joinAllBut 0 = .ok (.iconst 0, 1) := by decide +kernel
theorem dX3_joinAllBut_1 : decode cX3_joinAllBut 1 = .ok (.istore 4, 2) := by decide +kernel
theorem dX3_joinAllBut_3 : decode cX3_joinAllBut 3 = .ok (.iload 4, 2) := by decide +kernel
theorem dX3_joinAllBut_5 : decode cX3_joinAllBut 5 = .ok (.aload_n 2, 1) := by decide +kernel
theorem dX3_joinAllBut_6 : decode cX3_joinAllBut 6 = .ok (.getfield 234, 3) := by decide +kernel
theorem dX3_joinAllBut_9 : decode cX3_joinAllBut 9 = .ok (.if_icmp .ge 35, 3) := by decide +kernel
theorem dX3_joinAllBut_12 : decode cX3_joinAllBut 12 = .ok (.aload_n 2, 1) := by decide +kernel
theorem dX3_joinAllBut_13 : decode cX3_joinAllBut 13 = .ok (.getfield 237, 3) := by decide +kernel
theorem dX3_joinAllBut_16 : decode cX3_joinAllBut 16 = .ok (.iload 4, 2) := by decide +kernel
theorem dX3_joinAllBut_18 : decode cX3_joinAllBut 18 = .ok (.iaload, 1) := by decide +kernel
theorem dX3_joinAllBut_19 : decode cX3_joinAllBut 19 = .ok (.iload_n 3, 1) := by decide +kernel
theorem dX3_joinAllBut_20 : decode cX3_joinAllBut 20 = .ok (.if_icmp .eq 18, 3) := by decide +kernel
theorem dX3_joinAllBut_23 : decode cX3_joinAllBut 23 = .ok (.aload_n 0, 1) := by decide +kernel
theorem dX3_joinAllBut_24 : decode cX3_joinAllBut 24 = .ok (.getfield 45, 3) := by decide +kernel
theorem dX3_joinAllBut_27 : decode cX3_joinAllBut 27 = .ok (.aload_n 1, 1) := by decide +kernel
theorem dX3_joinAllBut_28 : decode cX3_joinAllBut 28 = .ok (.aload_n 2, 1) := by decide +kernel
theorem dX3_joinAllBut_29 : decode cX3_joinAllBut 29 = .ok (.getfield 237, 3) := by decide +kernel
theorem dX3_joinAllBut_32 : decode cX3_joinAllBut 32 = .ok (.iload 4, 2) := by decide +kernel
theorem dX3_joinAllBut_34 : decode cX3_joinAllBut 34 = .ok (.iaload, 1) := by decide +kernel
theorem dX3_joinAllBut_35 : decode cX3_joinAllBut 35 = .ok (.invokevirtual 183, 3) := by decide +kernel
theorem dX3_joinAllBut_38 : decode cX3_joinAllBut 38 = .ok (.iinc 4 1, 3) := by decide +kernel
theorem dX3_joinAllBut_41 : decode cX3_joinAllBut 41 = .ok (.goto (-38), 3) := by decide +kernel
theorem dX3_joinAllBut_44 : decode cX3_joinAllBut 44 = .ok (.return_, 1) := by decide +kernel

section
variable {p : Program} {l : Launch} {e : Env} {R : Room} {s : State} {m : MethodId} {args : Array Value} {below : List Frame} {meth : Method} {c : Code} {H : Heap} {locs : List Loc} {Qf : State → Prop}
variable {ls : Array Slot} {D : va_G} {ca : Nat → ClassId} {A : Nat → Prop} {ad : Nat → Nat → Nat} {u : iST}
def v_3_joinAllBut_3b (R3 : Int → Int → Int → Int → iST → Prop) (Q : iST → Prop) (x1 : Int) (x2 : Int) (x3 : Int) (x4 : Int) (u : iST) : Prop :=
  rd (u.2.1 46 x2) (fun v1 => 
  br (v1 ≤ x4) (
    Q u) (
    bd x4 30 (rd (u.2.1 49 (30 * x2 + x4)) (fun v2 => 
    br (v2 = x3) (
      ov (x4 + 1) (
      R3 x1 x2 x3 (x4 + 1) u)) (
      bd x4 30 (rd (u.2.1 49 (30 * x2 + x4)) (fun v4 => 
      v_10_join x1 v4 (fun u => 
      ov (x4 + 1) (
      R3 x1 x2 x3 (x4 + 1) u)) u)))))))
def v_3_joinAllBut_3 (Q : iST → Prop) (x1 : Int) (x2 : Int) (x3 : Int) (x4 : Int) (u : iST) : Prop := ∀ R3 : Int → Int → Int → Int → iST → Prop, (∀ (x1 : Int) (x2 : Int) (x3 : Int) (x4 : Int) (u : iST), v_3_joinAllBut_3b R3 Q x1 x2 x3 x4 u → R3 x1 x2 x3 x4 u) → R3 x1 x2 x3 x4 u
set_option maxRecDepth 20000 in
set_option maxHeartbeats 4000000 in
theorem f_3_joinAllBut_3 (X : yX RX3 p m c cX3_joinAllBut 5 s args D ca ad A) (hRf : 2 ≤ R.frames) (hRl : 46 ≤ R.locals) {Q : iST → Prop} (hret : ∀ (u : iST) (H : Heap) (locs : List Loc) (ls : Array Slot) (pc : Nat), Q u → yW D ca A ad s H locs u → decode cX3_joinAllBut pc = .ok (.return_, 1) → W p l e R s m args below meth c H locs 0 0 Qf (F0 m pc ls [])) {x1 x2 x3 x4 : Int} (rx1 : (0 ≤ x1 ∧ x1 < 408)) (rx2 : (0 ≤ x2 ∧ x2 < 408)) (rx3 : inR x3) (rx4 : inR x4) (hw : yW D ca A ad s H locs u) (hl : lv_has ls 5 [(0, .ref (ad 0 2)), (1, .ref (ad 4 x1.toNat)), (2, .ref (ad 4 x2.toNat)), (3, .int (jI x3)), (4, .int (jI x4))]) (h : v_3_joinAllBut_3 Q x1 x2 x3 x4 u) : W p l e R s m args below meth c H locs 0 0 Qf (F0 m 3 ls []) := by
  refine h (fun x1 x2 x3 x4 u => ∀ (H : Heap) (locs : List Loc) (ls : Array Slot), (0 ≤ x1 ∧ x1 < 408) → (0 ≤ x2 ∧ x2 < 408) → inR x3 → inR x4 → yW D ca A ad s H locs u → lv_has ls 5 [(0, .ref (ad 0 2)), (1, .ref (ad 4 x1.toNat)), (2, .ref (ad 4 x2.toNat)), (3, .int (jI x3)), (4, .int (jI x4))] → W p l e R s m args below meth c H locs 0 0 Qf (F0 m 3 ls [])) ?_ H locs ls rx1 rx2 rx3 rx4 hw hl
  clear h hl hw rx1 rx2 rx3 rx4
  intro x1 x2 x3 x4 u h H locs ls rx1 rx2 rx3 rx4 hw hl
  have hR3 : ∀ (x1 : Int) (x2 : Int) (x3 : Int) (x4 : Int) (u : iST) (H : Heap) (locs : List Loc) (ls : Array Slot), (0 ≤ x1 ∧ x1 < 408) → (0 ≤ x2 ∧ x2 < 408) → inR x3 → inR x4 → yW D ca A ad s H locs u → lv_has ls 5 [(0, .ref (ad 0 2)), (1, .ref (ad 4 x1.toNat)), (2, .ref (ad 4 x2.toNat)), (3, .int (jI x3)), (4, .int (jI x4))] → (fun (x1 : Int) (x2 : Int) (x3 : Int) (x4 : Int) u => ∀ (H : Heap) (locs : List Loc) (ls : Array Slot), (0 ≤ x1 ∧ x1 < 408) → (0 ≤ x2 ∧ x2 < 408) → inR x3 → inR x4 → yW D ca A ad s H locs u → lv_has ls 5 [(0, .ref (ad 0 2)), (1, .ref (ad 4 x1.toNat)), (2, .ref (ad 4 x2.toNat)), (3, .int (jI x3)), (4, .int (jI x4))] → W p l e R s m args below meth c H locs 0 0 Qf (F0 m 3 ls [])) x1 x2 x3 x4 u → W p l e R s m args below meth c H locs 0 0 Qf (F0 m 3 ls []) := fun x1 x2 x3 x4 u H locs ls rx1 rx2 rx3 rx4 hw hl h => h H locs ls rx1 rx2 rx3 rx4 hw hl
  have hx := X.1.1
  have hb := X.1.2.1
  unfold v_3_joinAllBut_3b at h
  refine lv_iload hx hb dX3_joinAllBut_3 (lv_at hl 4 rfl) ?_
  refine lv_aload_n hx hb dX3_joinAllBut_5 rfl (lv_at hl 2 rfl) ?_
  refine yg_3_234 X hw dX3_joinAllBut_6 rx2 h (fun v1 rv1 h => ?_)
  refine k_icmp_ge hx hb rx4 rv1 dX3_joinAllBut_9 (tgt := 44) rfl h (fun h => ?_) (fun h => ?_)
  · exact hret _ _ _ _ _ h hw dX3_joinAllBut_44
  · refine lv_aload_n hx hb dX3_joinAllBut_12 rfl (lv_at hl 2 rfl) ?_
    refine yg_3_237 X hw dX3_joinAllBut_13 rx2 ?_
    refine lv_iload hx hb dX3_joinAllBut_16 (lv_at hl 4 rfl) ?_
    refine yfl_lits X hw rx2 rx4 dX3_joinAllBut_18 h (fun v2 rv2 h => ?_)
    refine lv_iload_n hx hb dX3_joinAllBut_19 rfl (lv_at hl 3 rfl) ?_
    refine k_icmp_eq hx hb rv2 rx3 dX3_joinAllBut_20 (tgt := 38) rfl h (fun h => ?_) (fun h => ?_)
    · refine k_iinc (k := 4) hx hb dX3_joinAllBut_38 hl rfl (by decide) rfl h (fun ls r3 h hl => ?_)
      have hl : lv_has ls 5 [(4, .int (jI (x4 + 1))), (0, .ref (ad 0 2)), (1, .ref (ad 4 x1.toNat)), (2, .ref (ad 4 x2.toNat)), (3, .int (jI x3))] := hl
      refine lv_goto hx hb dX3_joinAllBut_41 (tgt := 3) rfl ?_
      exact hR3 _ _ _ _ _ H locs ls rx1 rx2 rx3 r3 hw (lv_sub hl [1, 2, 3, 4, 0] rfl) h
    · refine lv_aload_n hx hb dX3_joinAllBut_23 rfl (lv_at hl 0 rfl) ?_
      refine yg_3_45 X hw dX3_joinAllBut_24 ?_
      refine lv_aload_n hx hb dX3_joinAllBut_27 rfl (lv_at hl 1 rfl) ?_
      refine lv_aload_n hx hb dX3_joinAllBut_28 rfl (lv_at hl 2 rfl) ?_
      refine yg_3_237 X hw dX3_joinAllBut_29 rx2 ?_
      refine lv_iload hx hb dX3_joinAllBut_32 (lv_at hl 4 rfl) ?_
      refine yfl_lits X hw rx2 rx4 dX3_joinAllBut_34 h (fun v4 rv4 h => ?_)
      refine ycV (n := 2) (e_10_join rx1 rv4 h) 10 8 (r := (RX10, TX10, 16)) rfl yG_3_183 yD_10_join X hw rfl yGo_10 (Nat.le_trans (Nat.le_of_ble_eq_true rfl) hRf) (Nat.le_trans (Nat.le_of_ble_eq_true rfl) hRl) rfl hl.1 (Nat.le_of_ble_eq_true rfl) rfl dX3_joinAllBut_35 (fun u H locs h hw => ?_)
      refine k_iinc (k := 4) hx hb dX3_joinAllBut_38 hl rfl (by decide) rfl h (fun ls r6 h hl => ?_)
      have hl : lv_has ls 5 [(4, .int (jI (x4 + 1))), (0, .ref (ad 0 2)), (1, .ref (ad 4 x1.toNat)), (2, .ref (ad 4 x2.toNat)), (3, .int (jI x3))] := hl
      refine lv_goto hx hb dX3_joinAllBut_41 (tgt := 3) rfl ?_
      exact hR3 _ _ _ _ _ H locs ls rx1 rx2 rx3 r6 hw (lv_sub hl [1, 2, 3, 4, 0] rfl) h

def v_3_joinAllBut (a0 : Int) (a1 : Int) (a2 : Int) (Q : iST → Prop) (u : iST) : Prop :=
  v_3_joinAllBut_3 Q a0 a1 a2 0 u
set_option maxRecDepth 20000 in
set_option maxHeartbeats 4000000 in
theorem f_3_joinAllBut_s (X : yX RX3 p m c cX3_joinAllBut 5 s args D ca ad A) (hRf : 2 ≤ R.frames) (hRl : 46 ≤ R.locals) {Q : iST → Prop} (hret : ∀ (u : iST) (H : Heap) (locs : List Loc) (ls : Array Slot) (pc : Nat), Q u → yW D ca A ad s H locs u → decode cX3_joinAllBut pc = .ok (.return_, 1) → W p l e R s m args below meth c H locs 0 0 Qf (F0 m pc ls [])) {a0 a1 a2 : Int} (ra0 : (0 ≤ a0 ∧ a0 < 408)) (ra1 : (0 ≤ a1 ∧ a1 < 408)) (ra2 : inR a2) (hw : yW D ca A ad s H locs u) (hl : lv_has ls 5 [(0, .ref (ad 0 2)), (1, .ref (ad 4 a0.toNat)), (2, .ref (ad 4 a1.toNat)), (3, .int (jI a2))]) (h : v_3_joinAllBut a0 a1 a2 Q u) : W p l e R s m args below meth c H locs 0 0 Qf (F0 m 0 ls []) := by
  have hx := X.1.1
  have hb := X.1.2.1
  unfold v_3_joinAllBut at h
  refine lv_iconst hx hb dX3_joinAllBut_0 (v := jI 0) rfl ?_
  refine lv_istore hx hb dX3_joinAllBut_1 hl (by decide) rfl (fun ls hl => ?_)
  have hl : lv_has ls 5 [(4, .int (jI 0)), (0, .ref (ad 0 2)), (1, .ref (ad 4 a0.toNat)), (2, .ref (ad 4 a1.toNat)), (3, .int (jI a2))] := hl
  exact f_3_joinAllBut_3 X hRf hRl hret ra0 ra1 ra2 (by decide) hw (lv_sub hl [1, 2, 3, 4, 0] rfl) h

end
theorem e_3_joinAllBut {l : Launch} {a0 : Int} {a1 : Int} {a2 : Int} (ra0 : (0 ≤ a0 ∧ a0 < 408)) (ra1 : (0 ≤ a1 ∧ a1 < 408)) (ra2 : inR a2) {Q : iST → Prop} {u : iST} (h : v_3_joinAllBut a0 a1 a2 Q u) : yMV l yX3_joinAllBut (.code yX3_joinAllBut cX3_joinAllBut 5 none :: wsN) { frames := 2, cells := 0, slots := 0, locals := 46 } (fun ad => [.ref (ad 0 2), .ref (ad 4 a0.toNat), .ref (ad 4 a1.toNat), .int (jI a2)]) Q u := yMV_of (own := RX3) rfl (by decide +kernel) (fun _ => Nat.le_of_ble_eq_true rfl) (fun X hRf hRl hret hw hl => f_3_joinAllBut_s X hRf hRl hret ra0 ra1 ra2 hw hl h)

/-! ProofHouse$Proofs.isCut -/
theorem dX3_isCut_0 : decode cX3_isCut 0 = .ok (.iconst (-1), 1) := by decide +kernel
theorem dX3_isCut_1 : decode cX3_isCut 1 = .ok (.istore 5, 2) := by decide +kernel
theorem dX3_isCut_3 : decode cX3_isCut 3 = .ok (.iconst 0, 1) := by decide +kernel
theorem dX3_isCut_4 : decode cX3_isCut 4 = .ok (.istore 6, 2) := by decide +kernel
theorem dX3_isCut_6 : decode cX3_isCut 6 = .ok (.iload 6, 2) := by decide +kernel
theorem dX3_isCut_8 : decode cX3_isCut 8 = .ok (.aload_n 3, 1) := by decide +kernel
theorem dX3_isCut_9 : decode cX3_isCut 9 = .ok (.getfield 234, 3) := by decide +kernel
theorem dX3_isCut_12 : decode cX3_isCut 12 = .ok (.if_icmp .ge 42, 3) := by decide +kernel
theorem dX3_isCut_15 : decode cX3_isCut 15 = .ok (.aload_n 0, 1) := by decide +kernel
theorem dX3_isCut_16 : decode cX3_isCut 16 = .ok (.getfield 45, 3) := by decide +kernel
theorem dX3_isCut_19 : decode cX3_isCut 19 = .ok (.aload_n 3, 1) := by decide +kernel
theorem dX3_isCut_20 : decode cX3_isCut 20 = .ok (.getfield 237, 3) := by decide +kernel
theorem dX3_isCut_23 : decode cX3_isCut 23 = .ok (.iload 6, 2) := by decide +kernel
theorem dX3_isCut_25 : decode cX3_isCut 25 = .ok (.iaload, 1) := by decide +kernel
theorem dX3_isCut_26 : decode cX3_isCut 26 = .ok (.iload 4, 2) := by decide +kernel
theorem dX3_isCut_28 : decode cX3_isCut 28 = .ok (.invokevirtual 257, 3) := by decide +kernel
theorem dX3_isCut_31 : decode cX3_isCut 31 = .ok (.ifCond .eq 13, 3) := by decide +kernel
theorem dX3_isCut_34 : decode cX3_isCut 34 = .ok (.aload_n 3, 1) := by decide +kernel
theorem dX3_isCut_35 : decode cX3_isCut 35 = .ok (.getfield 237, 3) := by decide +kernel
theorem dX3_isCut_38 : decode cX3_isCut 38 = .ok (.iload 6, 2) := by decide +kernel
theorem dX3_isCut_40 : decode cX3_isCut 40 = .ok (.iaload, 1) := by decide +kernel
theorem dX3_isCut_41 : decode cX3_isCut 41 = .ok (.goto 5, 3) := by decide +kernel
theorem dX3_isCut_44 : decode cX3_isCut 44 = .ok (.iload 5, 2) := by decide +kernel
theorem dX3_isCut_46 : decode cX3_isCut 46 = .ok (.istore 5, 2) := by decide +kernel
theorem dX3_isCut_48 : decode cX3_isCut 48 = .ok (.iinc 6 1, 3) := by decide +kernel
theorem dX3_isCut_51 : decode cX3_isCut 51 = .ok (.goto (-45), 3) := by decide +kernel
theorem dX3_isCut_54 : decode cX3_isCut 54 = .ok (.aload_n 2, 1) := by decide +kernel
theorem dX3_isCut_55 : decode cX3_isCut 55 = .ok (.iload 4, 2) := by decide +kernel
theorem dX3_isCut_57 : decode cX3_isCut 57 = .ok (.invokevirtual 260, 3) := by decide +kernel
theorem dX3_isCut_60 : decode cX3_isCut 60 = .ok (.iconst (-1), 1) := by decide +kernel
theorem dX3_isCut_61 : decode cX3_isCut 61 = .ok (.if_icmp .eq 9, 3) := by decide +kernel
theorem dX3_isCut_64 : decode cX3_isCut 64 = .ok (.iload 5, 2) := by decide +kernel
theorem dX3_isCut_66 : decode cX3_isCut 66 = .ok (.iconst (-1), 1) := by decide +kernel
theorem dX3_isCut_67 : decode cX3_isCut 67 = .ok (.if_icmp .ne 5, 3) := by decide +kernel
theorem dX3_isCut_70 : decode cX3_isCut 70 = .ok (.iconst 0, 1) := by decide +kernel
theorem dX3_isCut_71 : decode cX3_isCut 71 = .ok (.ireturn, 1) := by decide +kernel
theorem dX3_isCut_72 : decode cX3_isCut 72 = .ok (.aload_n 0, 1) := by decide +kernel
theorem dX3_isCut_73 : decode cX3_isCut 73 = .ok (.aload_n 1, 1) := by decide +kernel
theorem dX3_isCut_74 : decode cX3_isCut 74 = .ok (.aload_n 2, 1) := by decide +kernel
theorem dX3_isCut_75 : decode cX3_isCut 75 = .ok (.iload 4, 2) := by decide +kernel
theorem dX3_isCut_77 : decode cX3_isCut 77 = .ok (.invokevirtual 250, 3) := by decide +kernel
theorem dX3_isCut_80 : decode cX3_isCut 80 = .ok (.aload_n 0, 1) := by decide +kernel
theorem dX3_isCut_81 : decode cX3_isCut 81 = .ok (.aload_n 1, 1) := by decide +kernel
theorem dX3_isCut_82 : decode cX3_isCut 82 = .ok (.aload_n 3, 1) := by decide +kernel
theorem dX3_isCut_83 : decode cX3_isCut 83 = .ok (.iload 5, 2) := by decide +kernel
theorem dX3_isCut_85 : decode cX3_isCut 85 = .ok (.invokevirtual 250, 3) := by decide +kernel
theorem dX3_isCut_88 : decode cX3_isCut 88 = .ok (.iconst 1, 1) := by decide +kernel
theorem dX3_isCut_89 : decode cX3_isCut 89 = .ok (.ireturn, 1) := by decide +kernel

section
variable {p : Program} {l : Launch} {e : Env} {R : Room} {s : State} {m : MethodId} {args : Array Value} {below : List Frame} {meth : Method} {c : Code} {H : Heap} {locs : List Loc} {Qf : State → Prop}
variable {ls : Array Slot} {D : va_G} {ca : Nat → ClassId} {A : Nat → Prop} {ad : Nat → Nat → Nat} {u : iST}
def v_3_isCut_6b (R6 : Int → Int → Int → Int → Int → Int → iST → Prop) (Q : Int → iST → Prop) (x1 : Int) (x2 : Int) (x3 : Int) (x4 : Int) (x5 : Int) (x6 : Int) (u : iST) : Prop :=
  rd (u.2.1 46 x3) (fun v1 => 
  br (v1 ≤ x6) (
    v_1_placeOf x2 x4 (fun v2 u => 
    br (v2 = (-1)) (
      zt 0 (Q 0 u)) (
      br (x5 ≠ (-1)) (
        v_3_joinAllBut x1 x2 x4 (fun u => 
        v_3_joinAllBut x1 x3 x5 (fun u => 
        zt 1 (Q 1 u)) u) u) (
        zt 0 (Q 0 u)))) u) (
    bd x6 30 (rd (u.2.1 49 (30 * x3 + x6)) (fun v5 => 
    v_10_isNegation v5 x4 (fun v6 u => 
    br (v6 = 0) (
      ov (x6 + 1) (
      R6 x1 x2 x3 x4 x5 (x6 + 1) u)) (
      bd x6 30 (rd (u.2.1 49 (30 * x3 + x6)) (fun v8 => 
      ov (x6 + 1) (
      R6 x1 x2 x3 x4 v8 (x6 + 1) u))))) u))))
def v_3_isCut_6 (Q : Int → iST → Prop) (x1 : Int) (x2 : Int) (x3 : Int) (x4 : Int) (x5 : Int) (x6 : Int) (u : iST) : Prop := ∀ R6 : Int → Int → Int → Int → Int → Int → iST → Prop, (∀ (x1 : Int) (x2 : Int) (x3 : Int) (x4 : Int) (x5 : Int) (x6 : Int) (u : iST), v_3_isCut_6b R6 Q x1 x2 x3 x4 x5 x6 u → R6 x1 x2 x3 x4 x5 x6 u) → R6 x1 x2 x3 x4 x5 x6 u
set_option maxRecDepth 20000 in
set_option maxHeartbeats 4000000 in
theorem f_3_isCut_6 (X : yX RX3 p m c cX3_isCut 7 s args D ca ad A) (hRf : 3 ≤ R.frames) (hRl : 70 ≤ R.locals) {Q : Int → iST → Prop} (hret : ∀ (v : Int) (u : iST) (H : Heap) (locs : List Loc) (ls : Array Slot) (pc : Nat), bz v → Q v u → yW D ca A ad s H locs u → decode cX3_isCut pc = .ok (.ireturn, 1) → W p l e R s m args below meth c H locs 0 0 Qf (F0 m pc ls [.int (jI v)])) {x1 x2 x3 x4 x5 x6 : Int} (rx1 : (0 ≤ x1 ∧ x1 < 408)) (rx2 : (0 ≤ x2 ∧ x2 < 408)) (rx3 : (0 ≤ x3 ∧ x3 < 408)) (rx4 : inR x4) (rx5 : inR x5) (rx6 : inR x6) (hw : yW D ca A ad s H locs u) (hl : lv_has ls 7 [(0, .ref (ad 0 2)), (1, .ref (ad 4 x1.toNat)), (2, .ref (ad 4 x2.toNat)), (3, .ref (ad 4 x3.toNat)), (4, .int (jI x4)), (5, .int (jI x5)), (6, .int (jI x6))]) (h : v_3_isCut_6 Q x1 x2 x3 x4 x5 x6 u) : W p l e R s m args below meth c H locs 0 0 Qf (F0 m 6 ls []) := by
  refine h (fun x1 x2 x3 x4 x5 x6 u => ∀ (H : Heap) (locs : List Loc) (ls : Array Slot), (0 ≤ x1 ∧ x1 < 408) → (0 ≤ x2 ∧ x2 < 408) → (0 ≤ x3 ∧ x3 < 408) → inR x4 → inR x5 → inR x6 → yW D ca A ad s H locs u → lv_has ls 7 [(0, .ref (ad 0 2)), (1, .ref (ad 4 x1.toNat)), (2, .ref (ad 4 x2.toNat)), (3, .ref (ad 4 x3.toNat)), (4, .int (jI x4)), (5, .int (jI x5)), (6, .int (jI x6))] → W p l e R s m args below meth c H locs 0 0 Qf (F0 m 6 ls [])) ?_ H locs ls rx1 rx2 rx3 rx4 rx5 rx6 hw hl
  clear h hl hw rx1 rx2 rx3 rx4 rx5 rx6
  intro x1 x2 x3 x4 x5 x6 u h H locs ls rx1 rx2 rx3 rx4 rx5 rx6 hw hl
  have hR6 : ∀ (x1 : Int) (x2 : Int) (x3 : Int) (x4 : Int) (x5 : Int) (x6 : Int) (u : iST) (H : Heap) (locs : List Loc) (ls : Array Slot), (0 ≤ x1 ∧ x1 < 408) → (0 ≤ x2 ∧ x2 < 408) → (0 ≤ x3 ∧ x3 < 408) → inR x4 → inR x5 → inR x6 → yW D ca A ad s H locs u → lv_has ls 7 [(0, .ref (ad 0 2)), (1, .ref (ad 4 x1.toNat)), (2, .ref (ad 4 x2.toNat)), (3, .ref (ad 4 x3.toNat)), (4, .int (jI x4)), (5, .int (jI x5)), (6, .int (jI x6))] → (fun (x1 : Int) (x2 : Int) (x3 : Int) (x4 : Int) (x5 : Int) (x6 : Int) u => ∀ (H : Heap) (locs : List Loc) (ls : Array Slot), (0 ≤ x1 ∧ x1 < 408) → (0 ≤ x2 ∧ x2 < 408) → (0 ≤ x3 ∧ x3 < 408) → inR x4 → inR x5 → inR x6 → yW D ca A ad s H locs u → lv_has ls 7 [(0, .ref (ad 0 2)), (1, .ref (ad 4 x1.toNat)), (2, .ref (ad 4 x2.toNat)), (3, .ref (ad 4 x3.toNat)), (4, .int (jI x4)), (5, .int (jI x5)), (6, .int (jI x6))] → W p l e R s m args below meth c H locs 0 0 Qf (F0 m 6 ls [])) x1 x2 x3 x4 x5 x6 u → W p l e R s m args below meth c H locs 0 0 Qf (F0 m 6 ls []) := fun x1 x2 x3 x4 x5 x6 u H locs ls rx1 rx2 rx3 rx4 rx5 rx6 hw hl h => h H locs ls rx1 rx2 rx3 rx4 rx5 rx6 hw hl
  have hx := X.1.1
  have hb := X.1.2.1
  unfold v_3_isCut_6b at h
  refine lv_iload hx hb dX3_isCut_6 (lv_at hl 6 rfl) ?_
  refine lv_aload_n hx hb dX3_isCut_8 rfl (lv_at hl 3 rfl) ?_
  refine yg_3_234 X hw dX3_isCut_9 rx3 h (fun v1 rv1 h => ?_)
  refine k_icmp_ge hx hb rx6 rv1 dX3_isCut_12 (tgt := 54) rfl h (fun h => ?_) (fun h => ?_)
  · refine lv_aload_n hx hb dX3_isCut_54 rfl (lv_at hl 2 rfl) ?_
    refine lv_iload hx hb dX3_isCut_55 (lv_at hl 4 rfl) ?_
    refine ycI (n := 1) (e_1_placeOf rx2 rx4 h) 1 (65 + x2.toNat) (r := (RX1, TX1, 4)) rfl yG_3_260 yD_1_placeOf X hw rfl (yGf_clause (toNat_lt rx2)) (Nat.le_trans (Nat.le_of_ble_eq_true rfl) hRf) (Nat.le_trans (Nat.le_of_ble_eq_true rfl) hRl) rfl hl.1 (Nat.le_of_ble_eq_true rfl) rfl dX3_isCut_57 (fun v2 u H locs rv2 h hw => ?_)
    refine lv_iconst hx hb dX3_isCut_60 (v := jI (-1)) rfl ?_
    refine k_icmp_eq hx hb rv2 (by decide) dX3_isCut_61 (tgt := 70) rfl h (fun h => ?_) (fun h => ?_)
    · refine lv_iconst hx hb dX3_isCut_70 (v := jI 0) rfl ?_
      exact hret _ _ _ _ _ _ h.1 h.2 hw dX3_isCut_71
    · refine lv_iload hx hb dX3_isCut_64 (lv_at hl 5 rfl) ?_
      refine lv_iconst hx hb dX3_isCut_66 (v := jI (-1)) rfl ?_
      refine k_icmp_ne hx hb rx5 (by decide) dX3_isCut_67 (tgt := 72) rfl h (fun h => ?_) (fun h => ?_)
      · refine lv_aload_n hx hb dX3_isCut_72 rfl (lv_at hl 0 rfl) ?_
        refine lv_aload_n hx hb dX3_isCut_73 rfl (lv_at hl 1 rfl) ?_
        refine lv_aload_n hx hb dX3_isCut_74 rfl (lv_at hl 2 rfl) ?_
        refine lv_iload hx hb dX3_isCut_75 (lv_at hl 4 rfl) ?_
        refine ycV (n := 3) (e_3_joinAllBut rx1 rx2 rx4 h) 3 2 (r := (RX3, TX3, 11)) rfl yG_3_250 yD_3_joinAllBut X hw rfl yGo_3 (Nat.le_trans (Nat.le_of_ble_eq_true rfl) hRf) (Nat.le_trans (Nat.le_of_ble_eq_true rfl) hRl) rfl hl.1 (Nat.le_of_ble_eq_true rfl) rfl dX3_isCut_77 (fun u H locs h hw => ?_)
        refine lv_aload_n hx hb dX3_isCut_80 rfl (lv_at hl 0 rfl) ?_
        refine lv_aload_n hx hb dX3_isCut_81 rfl (lv_at hl 1 rfl) ?_
        refine lv_aload_n hx hb dX3_isCut_82 rfl (lv_at hl 3 rfl) ?_
        refine lv_iload hx hb dX3_isCut_83 (lv_at hl 5 rfl) ?_
        refine ycV (n := 3) (e_3_joinAllBut rx1 rx3 rx5 h) 3 2 (r := (RX3, TX3, 11)) rfl yG_3_250 yD_3_joinAllBut X hw rfl yGo_3 (Nat.le_trans (Nat.le_of_ble_eq_true rfl) hRf) (Nat.le_trans (Nat.le_of_ble_eq_true rfl) hRl) rfl hl.1 (Nat.le_of_ble_eq_true rfl) rfl dX3_isCut_85 (fun u H locs h hw => ?_)
        refine lv_iconst hx hb dX3_isCut_88 (v := jI 1) rfl ?_
        exact hret _ _ _ _ _ _ h.1 h.2 hw dX3_isCut_89
      · refine lv_iconst hx hb dX3_isCut_70 (v := jI 0) rfl ?_
        exact hret _ _ _ _ _ _ h.1 h.2 hw dX3_isCut_71
  · refine lv_aload_n hx hb dX3_isCut_15 rfl (lv_at hl 0 rfl) ?_
    refine yg_3_45 X hw dX3_isCut_16 ?_
    refine lv_aload_n hx hb dX3_isCut_19 rfl (lv_at hl 3 rfl) ?_
    refine yg_3_237 X hw dX3_isCut_20 rx3 ?_
    refine lv_iload hx hb dX3_isCut_23 (lv_at hl 6 rfl) ?_
    refine yfl_lits X hw rx3 rx6 dX3_isCut_25 h (fun v5 rv5 h => ?_)
    refine lv_iload hx hb dX3_isCut_26 (lv_at hl 4 rfl) ?_
    refine ycI (n := 2) (e_10_isNegation rv5 rx4 h) 10 8 (r := (RX10, TX10, 16)) rfl yG_3_257 yD_10_isNegation X hw rfl yGo_10 (Nat.le_trans (Nat.le_of_ble_eq_true rfl) hRf) (Nat.le_trans (Nat.le_of_ble_eq_true rfl) hRl) rfl hl.1 (Nat.le_of_ble_eq_true rfl) rfl dX3_isCut_28 (fun v6 u H locs rv6 h hw => ?_)
    refine k_if_eq hx hb rv6 dX3_isCut_31 (tgt := 44) rfl h (fun h => ?_) (fun h => ?_)
    · refine lv_iload hx hb dX3_isCut_44 (lv_at hl 5 rfl) ?_
      refine lv_istore hx hb dX3_isCut_46 hl (by decide) rfl (fun ls hl => ?_)
      have hl : lv_has ls 7 [(5, .int (jI x5)), (0, .ref (ad 0 2)), (1, .ref (ad 4 x1.toNat)), (2, .ref (ad 4 x2.toNat)), (3, .ref (ad 4 x3.toNat)), (4, .int (jI x4)), (6, .int (jI x6))] := hl
      refine k_iinc (k := 6) hx hb dX3_isCut_48 hl rfl (by decide) rfl h (fun ls r7 h hl => ?_)
      have hl : lv_has ls 7 [(6, .int (jI (x6 + 1))), (5, .int (jI x5)), (0, .ref (ad 0 2)), (1, .ref (ad 4 x1.toNat)), (2, .ref (ad 4 x2.toNat)), (3, .ref (ad 4 x3.toNat)), (4, .int (jI x4))] := hl
      refine lv_goto hx hb dX3_isCut_51 (tgt := 6) rfl ?_
      exact hR6 _ _ _ _ _ _ _ H locs ls rx1 rx2 rx3 rx4 rx5 r7 hw (lv_sub hl [2, 3, 4, 5, 6, 1, 0] rfl) h
    · refine lv_aload_n hx hb dX3_isCut_34 rfl (lv_at hl 3 rfl) ?_
      refine yg_3_237 X hw dX3_isCut_35 rx3 ?_
      refine lv_iload hx hb dX3_isCut_38 (lv_at hl 6 rfl) ?_
      refine yfl_lits X hw rx3 rx6 dX3_isCut_40 h (fun v8 rv8 h => ?_)
      refine lv_goto hx hb dX3_isCut_41 (tgt := 46) rfl ?_
      refine lv_istore hx hb dX3_isCut_46 hl (by decide) rfl (fun ls hl => ?_)
      have hl : lv_has ls 7 [(5, .int (jI v8)), (0, .ref (ad 0 2)), (1, .ref (ad 4 x1.toNat)), (2, .ref (ad 4 x2.toNat)), (3, .ref (ad 4 x3.toNat)), (4, .int (jI x4)), (6, .int (jI x6))] := hl
      refine k_iinc (k := 6) hx hb dX3_isCut_48 hl rfl (by decide) rfl h (fun ls r9 h hl => ?_)
      have hl : lv_has ls 7 [(6, .int (jI (x6 + 1))), (5, .int (jI v8)), (0, .ref (ad 0 2)), (1, .ref (ad 4 x1.toNat)), (2, .ref (ad 4 x2.toNat)), (3, .ref (ad 4 x3.toNat)), (4, .int (jI x4))] := hl
      refine lv_goto hx hb dX3_isCut_51 (tgt := 6) rfl ?_
      exact hR6 _ _ _ _ _ _ _ H locs ls rx1 rx2 rx3 rx4 rv8 r9 hw (lv_sub hl [2, 3, 4, 5, 6, 1, 0] rfl) h

def v_3_isCut (a0 : Int) (a1 : Int) (a2 : Int) (a3 : Int) (Q : Int → iST → Prop) (u : iST) : Prop :=
  v_3_isCut_6 Q a0 a1 a2 a3 (-1) 0 u
set_option maxRecDepth 20000 in
set_option maxHeartbeats 4000000 in
theorem f_3_isCut_s (X : yX RX3 p m c cX3_isCut 7 s args D ca ad A) (hRf : 3 ≤ R.frames) (hRl : 70 ≤ R.locals) {Q : Int → iST → Prop} (hret : ∀ (v : Int) (u : iST) (H : Heap) (locs : List Loc) (ls : Array Slot) (pc : Nat), bz v → Q v u → yW D ca A ad s H locs u → decode cX3_isCut pc = .ok (.ireturn, 1) → W p l e R s m args below meth c H locs 0 0 Qf (F0 m pc ls [.int (jI v)])) {a0 a1 a2 a3 : Int} (ra0 : (0 ≤ a0 ∧ a0 < 408)) (ra1 : (0 ≤ a1 ∧ a1 < 408)) (ra2 : (0 ≤ a2 ∧ a2 < 408)) (ra3 : inR a3) (hw : yW D ca A ad s H locs u) (hl : lv_has ls 7 [(0, .ref (ad 0 2)), (1, .ref (ad 4 a0.toNat)), (2, .ref (ad 4 a1.toNat)), (3, .ref (ad 4 a2.toNat)), (4, .int (jI a3))]) (h : v_3_isCut a0 a1 a2 a3 Q u) : W p l e R s m args below meth c H locs 0 0 Qf (F0 m 0 ls []) := by
  have hx := X.1.1
  have hb := X.1.2.1
  unfold v_3_isCut at h
  refine lv_iconst hx hb dX3_isCut_0 (v := jI (-1)) rfl ?_
  refine lv_istore hx hb dX3_isCut_1 hl (by decide) rfl (fun ls hl => ?_)
  have hl : lv_has ls 7 [(5, .int (jI (-1))), (0, .ref (ad 0 2)), (1, .ref (ad 4 a0.toNat)), (2, .ref (ad 4 a1.toNat)), (3, .ref (ad 4 a2.toNat)), (4, .int (jI a3))] := hl
  refine lv_iconst hx hb dX3_isCut_3 (v := jI 0) rfl ?_
  refine lv_istore hx hb dX3_isCut_4 hl (by decide) rfl (fun ls hl => ?_)
  have hl : lv_has ls 7 [(6, .int (jI 0)), (5, .int (jI (-1))), (0, .ref (ad 0 2)), (1, .ref (ad 4 a0.toNat)), (2, .ref (ad 4 a1.toNat)), (3, .ref (ad 4 a2.toNat)), (4, .int (jI a3))] := hl
  exact f_3_isCut_6 X hRf hRl hret ra0 ra1 ra2 ra3 (by decide) (by decide) hw (lv_sub hl [2, 3, 4, 5, 6, 1, 0] rfl) h

end
theorem e_3_isCut {l : Launch} {a0 : Int} {a1 : Int} {a2 : Int} {a3 : Int} (ra0 : (0 ≤ a0 ∧ a0 < 408)) (ra1 : (0 ≤ a1 ∧ a1 < 408)) (ra2 : (0 ≤ a2 ∧ a2 < 408)) (ra3 : inR a3) {Q : Int → iST → Prop} {u : iST} (h : v_3_isCut a0 a1 a2 a3 Q u) : yMI l yX3_isCut (.code yX3_isCut cX3_isCut 7 (some .boolean) :: wsN) { frames := 3, cells := 0, slots := 0, locals := 70 } (fun ad => [.ref (ad 0 2), .ref (ad 4 a0.toNat), .ref (ad 4 a1.toNat), .ref (ad 4 a2.toNat), .int (jI a3)]) Q u := yMZ_of (own := RX3) rfl (by decide +kernel) (fun _ => Nat.le_of_ble_eq_true rfl) (fun X hRf hRl hret hw hl => f_3_isCut_s X hRf hRl hret ra0 ra1 ra2 ra3 hw hl h)

/-! ProofHouse$Proofs.joinRebuilt -/
theorem dX3_joinRebuilt_0 : decode cX3_joinRebuilt 0 = .ok (.iconst 0, 1) := by decide +kernel
theorem dX3_joinRebuilt_1 : decode cX3_joinRebuilt 1 = .ok (.istore 4, 2) := by decide +kernel
theorem dX3_joinRebuilt_3 : decode cX3_joinRebuilt 3 = .ok (.iload 4, 2) := by decide +kernel
theorem dX3_joinRebuilt_5 : decode cX3_joinRebuilt 5 = .ok (.aload_n 2, 1) := by decide +kernel
theorem dX3_joinRebuilt_6 : decode cX3_joinRebuilt 6 = .ok (.getfield 234, 3) := by decide +kernel
theorem dX3_joinRebuilt_9 : decode cX3_joinRebuilt 9 = .ok (.if_icmp .ge 32, 3) := by decide +kernel
theorem dX3_joinRebuilt_12 : decode cX3_joinRebuilt 12 = .ok (.aload_n 0, 1) := by decide +kernel
theorem dX3_joinRebuilt_13 : decode cX3_joinRebuilt 13 = .ok (.getfield 45, 3) := by decide +kernel
theorem dX3_joinRebuilt_16 : decode cX3_joinRebuilt 16 = .ok (.aload_n 1, 1) := by decide +kernel
theorem dX3_joinRebuilt_17 : decode cX3_joinRebuilt 17 = .ok (.aload_n 0, 1) := by decide +kernel
theorem dX3_joinRebuilt_18 : decode cX3_joinRebuilt 18 = .ok (.getfield 45, 3) := by decide +kernel
theorem dX3_joinRebuilt_21 : decode cX3_joinRebuilt 21 = .ok (.aload_n 2, 1) := by decide +kernel
theorem dX3_joinRebuilt_22 : decode cX3_joinRebuilt 22 = .ok (.getfield 237, 3) := by decide +kernel
theorem dX3_joinRebuilt_25 : decode cX3_joinRebuilt 25 = .ok (.iload 4, 2) := by decide +kernel
theorem dX3_joinRebuilt_27 : decode cX3_joinRebuilt 27 = .ok (.iaload, 1) := by decide +kernel
theorem dX3_joinRebuilt_28 : decode cX3_joinRebuilt 28 = .ok (.iload_n 3, 1) := by decide +kernel
theorem dX3_joinRebuilt_29 : decode cX3_joinRebuilt 29 = .ok (.invokevirtual 112, 3) := by decide +kernel
theorem dX3_joinRebuilt_32 : decode cX3_joinRebuilt 32 = .ok (.invokevirtual 183, 3) := by decide +kernel
theorem dX3_joinRebuilt_35 : decode cX3_joinRebuilt 35 = .ok (.iinc 4 1, 3) := by decide +kernel
theorem dX3_joinRebuilt_38 : decode cX3_joinRebuilt 38 = .ok (.goto (-35), 3) := by decide +kernel
theorem dX3_joinRebuilt_41 : decode cX3_joinRebuilt 41 = .ok (.return_, 1) := by decide +kernel

section
variable {p : Program} {l : Launch} {e : Env} {R : Room} {s : State} {m : MethodId} {args : Array Value} {below : List Frame} {meth : Method} {c : Code} {H : Heap} {locs : List Loc} {Qf : State → Prop}
variable {ls : Array Slot} {D : va_G} {ca : Nat → ClassId} {A : Nat → Prop} {ad : Nat → Nat → Nat} {u : iST}
def v_3_joinRebuilt_3b (R3 : Int → Int → Int → Int → iST → Prop) (Q : iST → Prop) (x1 : Int) (x2 : Int) (x3 : Int) (x4 : Int) (u : iST) : Prop :=
  rd (u.2.1 46 x2) (fun v1 => 
  br (v1 ≤ x4) (
    Q u) (
    bd x4 30 (rd (u.2.1 49 (30 * x2 + x4)) (fun v2 => 
    v_10_rebuilt v2 x3 (fun v3 u => 
    v_10_join x1 v3 (fun u => 
    ov (x4 + 1) (
    R3 x1 x2 x3 (x4 + 1) u)) u) u))))
def v_3_joinRebuilt_3 (Q : iST → Prop) (x1 : Int) (x2 : Int) (x3 : Int) (x4 : Int) (u : iST) : Prop := ∀ R3 : Int → Int → Int → Int → iST → Prop, (∀ (x1 : Int) (x2 : Int) (x3 : Int) (x4 : Int) (u : iST), v_3_joinRebuilt_3b R3 Q x1 x2 x3 x4 u → R3 x1 x2 x3 x4 u) → R3 x1 x2 x3 x4 u
set_option maxRecDepth 20000 in
set_option maxHeartbeats 4000000 in
theorem f_3_joinRebuilt_3 (X : yX RX3 p m c cX3_joinRebuilt 5 s args D ca ad A) (hRf : 3 ≤ R.frames) (hRl : 75 ≤ R.locals) {Q : iST → Prop} (hret : ∀ (u : iST) (H : Heap) (locs : List Loc) (ls : Array Slot) (pc : Nat), Q u → yW D ca A ad s H locs u → decode cX3_joinRebuilt pc = .ok (.return_, 1) → W p l e R s m args below meth c H locs 0 0 Qf (F0 m pc ls [])) {x1 x2 x3 x4 : Int} (rx1 : (0 ≤ x1 ∧ x1 < 408)) (rx2 : (0 ≤ x2 ∧ x2 < 408)) (rx3 : inR x3) (rx4 : inR x4) (hw : yW D ca A ad s H locs u) (hl : lv_has ls 5 [(0, .ref (ad 0 2)), (1, .ref (ad 4 x1.toNat)), (2, .ref (ad 4 x2.toNat)), (3, .int (jI x3)), (4, .int (jI x4))]) (h : v_3_joinRebuilt_3 Q x1 x2 x3 x4 u) : W p l e R s m args below meth c H locs 0 0 Qf (F0 m 3 ls []) := by
  refine h (fun x1 x2 x3 x4 u => ∀ (H : Heap) (locs : List Loc) (ls : Array Slot), (0 ≤ x1 ∧ x1 < 408) → (0 ≤ x2 ∧ x2 < 408) → inR x3 → inR x4 → yW D ca A ad s H locs u → lv_has ls 5 [(0, .ref (ad 0 2)), (1, .ref (ad 4 x1.toNat)), (2, .ref (ad 4 x2.toNat)), (3, .int (jI x3)), (4, .int (jI x4))] → W p l e R s m args below meth c H locs 0 0 Qf (F0 m 3 ls [])) ?_ H locs ls rx1 rx2 rx3 rx4 hw hl
  clear h hl hw rx1 rx2 rx3 rx4
  intro x1 x2 x3 x4 u h H locs ls rx1 rx2 rx3 rx4 hw hl
  have hR3 : ∀ (x1 : Int) (x2 : Int) (x3 : Int) (x4 : Int) (u : iST) (H : Heap) (locs : List Loc) (ls : Array Slot), (0 ≤ x1 ∧ x1 < 408) → (0 ≤ x2 ∧ x2 < 408) → inR x3 → inR x4 → yW D ca A ad s H locs u → lv_has ls 5 [(0, .ref (ad 0 2)), (1, .ref (ad 4 x1.toNat)), (2, .ref (ad 4 x2.toNat)), (3, .int (jI x3)), (4, .int (jI x4))] → (fun (x1 : Int) (x2 : Int) (x3 : Int) (x4 : Int) u => ∀ (H : Heap) (locs : List Loc) (ls : Array Slot), (0 ≤ x1 ∧ x1 < 408) → (0 ≤ x2 ∧ x2 < 408) → inR x3 → inR x4 → yW D ca A ad s H locs u → lv_has ls 5 [(0, .ref (ad 0 2)), (1, .ref (ad 4 x1.toNat)), (2, .ref (ad 4 x2.toNat)), (3, .int (jI x3)), (4, .int (jI x4))] → W p l e R s m args below meth c H locs 0 0 Qf (F0 m 3 ls [])) x1 x2 x3 x4 u → W p l e R s m args below meth c H locs 0 0 Qf (F0 m 3 ls []) := fun x1 x2 x3 x4 u H locs ls rx1 rx2 rx3 rx4 hw hl h => h H locs ls rx1 rx2 rx3 rx4 hw hl
  have hx := X.1.1
  have hb := X.1.2.1
  unfold v_3_joinRebuilt_3b at h
  refine lv_iload hx hb dX3_joinRebuilt_3 (lv_at hl 4 rfl) ?_
  refine lv_aload_n hx hb dX3_joinRebuilt_5 rfl (lv_at hl 2 rfl) ?_
  refine yg_3_234 X hw dX3_joinRebuilt_6 rx2 h (fun v1 rv1 h => ?_)
  refine k_icmp_ge hx hb rx4 rv1 dX3_joinRebuilt_9 (tgt := 41) rfl h (fun h => ?_) (fun h => ?_)
  · exact hret _ _ _ _ _ h hw dX3_joinRebuilt_41
  · refine lv_aload_n hx hb dX3_joinRebuilt_12 rfl (lv_at hl 0 rfl) ?_
    refine yg_3_45 X hw dX3_joinRebuilt_13 ?_
    refine lv_aload_n hx hb dX3_joinRebuilt_16 rfl (lv_at hl 1 rfl) ?_
    refine lv_aload_n hx hb dX3_joinRebuilt_17 rfl (lv_at hl 0 rfl) ?_
    refine yg_3_45 X hw dX3_joinRebuilt_18 ?_
    refine lv_aload_n hx hb dX3_joinRebuilt_21 rfl (lv_at hl 2 rfl) ?_
    refine yg_3_237 X hw dX3_joinRebuilt_22 rx2 ?_
    refine lv_iload hx hb dX3_joinRebuilt_25 (lv_at hl 4 rfl) ?_
    refine yfl_lits X hw rx2 rx4 dX3_joinRebuilt_27 h (fun v2 rv2 h => ?_)
    refine lv_iload_n hx hb dX3_joinRebuilt_28 rfl (lv_at hl 3 rfl) ?_
    refine ycI (n := 2) (e_10_rebuilt rv2 rx3 h) 10 8 (r := (RX10, TX10, 16)) rfl yG_3_112 yD_10_rebuilt X hw rfl yGo_10 (Nat.le_trans (Nat.le_of_ble_eq_true rfl) hRf) (Nat.le_trans (Nat.le_of_ble_eq_true rfl) hRl) rfl hl.1 (Nat.le_of_ble_eq_true rfl) rfl dX3_joinRebuilt_29 (fun v3 u H locs rv3 h hw => ?_)
    refine ycV (n := 2) (e_10_join rx1 rv3 h) 10 8 (r := (RX10, TX10, 16)) rfl yG_3_183 yD_10_join X hw rfl yGo_10 (Nat.le_trans (Nat.le_of_ble_eq_true rfl) hRf) (Nat.le_trans (Nat.le_of_ble_eq_true rfl) hRl) rfl hl.1 (Nat.le_of_ble_eq_true rfl) rfl dX3_joinRebuilt_32 (fun u H locs h hw => ?_)
    refine k_iinc (k := 4) hx hb dX3_joinRebuilt_35 hl rfl (by decide) rfl h (fun ls r5 h hl => ?_)
    have hl : lv_has ls 5 [(4, .int (jI (x4 + 1))), (0, .ref (ad 0 2)), (1, .ref (ad 4 x1.toNat)), (2, .ref (ad 4 x2.toNat)), (3, .int (jI x3))] := hl
    refine lv_goto hx hb dX3_joinRebuilt_38 (tgt := 3) rfl ?_
    exact hR3 _ _ _ _ _ H locs ls rx1 rx2 rx3 r5 hw (lv_sub hl [1, 2, 3, 4, 0] rfl) h

def v_3_joinRebuilt (a0 : Int) (a1 : Int) (a2 : Int) (Q : iST → Prop) (u : iST) : Prop :=
  v_3_joinRebuilt_3 Q a0 a1 a2 0 u
set_option maxRecDepth 20000 in
set_option maxHeartbeats 4000000 in
theorem f_3_joinRebuilt_s (X : yX RX3 p m c cX3_joinRebuilt 5 s args D ca ad A) (hRf : 3 ≤ R.frames) (hRl : 75 ≤ R.locals) {Q : iST → Prop} (hret : ∀ (u : iST) (H : Heap) (locs : List Loc) (ls : Array Slot) (pc : Nat), Q u → yW D ca A ad s H locs u → decode cX3_joinRebuilt pc = .ok (.return_, 1) → W p l e R s m args below meth c H locs 0 0 Qf (F0 m pc ls [])) {a0 a1 a2 : Int} (ra0 : (0 ≤ a0 ∧ a0 < 408)) (ra1 : (0 ≤ a1 ∧ a1 < 408)) (ra2 : inR a2) (hw : yW D ca A ad s H locs u) (hl : lv_has ls 5 [(0, .ref (ad 0 2)), (1, .ref (ad 4 a0.toNat)), (2, .ref (ad 4 a1.toNat)), (3, .int (jI a2))]) (h : v_3_joinRebuilt a0 a1 a2 Q u) : W p l e R s m args below meth c H locs 0 0 Qf (F0 m 0 ls []) := by
  have hx := X.1.1
  have hb := X.1.2.1
  unfold v_3_joinRebuilt at h
  refine lv_iconst hx hb dX3_joinRebuilt_0 (v := jI 0) rfl ?_
  refine lv_istore hx hb dX3_joinRebuilt_1 hl (by decide) rfl (fun ls hl => ?_)
  have hl : lv_has ls 5 [(4, .int (jI 0)), (0, .ref (ad 0 2)), (1, .ref (ad 4 a0.toNat)), (2, .ref (ad 4 a1.toNat)), (3, .int (jI a2))] := hl
  exact f_3_joinRebuilt_3 X hRf hRl hret ra0 ra1 ra2 (by decide) hw (lv_sub hl [1, 2, 3, 4, 0] rfl) h

end
theorem e_3_joinRebuilt {l : Launch} {a0 : Int} {a1 : Int} {a2 : Int} (ra0 : (0 ≤ a0 ∧ a0 < 408)) (ra1 : (0 ≤ a1 ∧ a1 < 408)) (ra2 : inR a2) {Q : iST → Prop} {u : iST} (h : v_3_joinRebuilt a0 a1 a2 Q u) : yMV l yX3_joinRebuilt (.code yX3_joinRebuilt cX3_joinRebuilt 5 none :: wsN) { frames := 3, cells := 0, slots := 0, locals := 75 } (fun ad => [.ref (ad 0 2), .ref (ad 4 a0.toNat), .ref (ad 4 a1.toNat), .int (jI a2)]) Q u := yMV_of (own := RX3) rfl (by decide +kernel) (fun _ => Nat.le_of_ble_eq_true rfl) (fun X hRf hRl hret hw hl => f_3_joinRebuilt_s X hRf hRl hret ra0 ra1 ra2 hw hl h)

/-! ProofHouse$Proofs.concludeOfParts -/
theorem dX3_concludeOfParts_0 : decode cX3_concludeOfParts 0 = .ok (.aload_n 0, 1) := by decide +kernel
theorem dX3_concludeOfParts_1 : decode cX3_concludeOfParts 1 = .ok (.getfield 37, 3) := by decide +kernel
theorem dX3_concludeOfParts_4 : decode cX3_concludeOfParts 4 = .ok (.iload_n 2, 1) := by decide +kernel
theorem dX3_concludeOfParts_5 : decode cX3_concludeOfParts 5 = .ok (.invokevirtual 89, 3) := by decide +kernel
theorem dX3_concludeOfParts_8 : decode cX3_concludeOfParts 8 = .ok (.tableswitch 113 38 40 #[28, 50, 76], 28) := by decide +kernel
theorem dX3_concludeOfParts_36 : decode cX3_concludeOfParts 36 = .ok (.aload_n 0, 1) := by decide +kernel
theorem dX3_concludeOfParts_37 : decode cX3_concludeOfParts 37 = .ok (.aload_n 1, 1) := by decide +kernel
theorem dX3_concludeOfParts_38 : decode cX3_concludeOfParts 38 = .ok (.aload_n 0, 1) := by decide +kernel
theorem dX3_concludeOfParts_39 : decode cX3_concludeOfParts 39 = .ok (.getfield 22, 3) := by decide +kernel
theorem dX3_concludeOfParts_42 : decode cX3_concludeOfParts 42 = .ok (.iload_n 3, 1) := by decide +kernel
theorem dX3_concludeOfParts_43 : decode cX3_concludeOfParts 43 = .ok (.aaload, 1) := by decide +kernel
theorem dX3_concludeOfParts_44 : decode cX3_concludeOfParts 44 = .ok (.aload_n 0, 1) := by decide +kernel
theorem dX3_concludeOfParts_45 : decode cX3_concludeOfParts 45 = .ok (.getfield 37, 3) := by decide +kernel
theorem dX3_concludeOfParts_48 : decode cX3_concludeOfParts 48 = .ok (.iload_n 2, 1) := by decide +kernel
theorem dX3_concludeOfParts_49 : decode cX3_concludeOfParts 49 = .ok (.iconst 1, 1) := by decide +kernel
theorem dX3_concludeOfParts_50 : decode cX3_concludeOfParts 50 = .ok (.invokevirtual 67, 3) := by decide +kernel
theorem dX3_concludeOfParts_53 : decode cX3_concludeOfParts 53 = .ok (.invokevirtual 223, 3) := by decide +kernel
theorem dX3_concludeOfParts_56 : decode cX3_concludeOfParts 56 = .ok (.iconst 1, 1) := by decide +kernel
theorem dX3_concludeOfParts_57 : decode cX3_concludeOfParts 57 = .ok (.ireturn, 1) := by decide +kernel
theorem dX3_concludeOfParts_58 : decode cX3_concludeOfParts 58 = .ok (.aload_n 0, 1) := by decide +kernel
theorem dX3_concludeOfParts_59 : decode cX3_concludeOfParts 59 = .ok (.aload_n 1, 1) := by decide +kernel
theorem dX3_concludeOfParts_60 : decode cX3_concludeOfParts 60 = .ok (.aload_n 0, 1) := by decide +kernel
theorem dX3_concludeOfParts_61 : decode cX3_concludeOfParts 61 = .ok (.getfield 22, 3) := by decide +kernel
theorem dX3_concludeOfParts_64 : decode cX3_concludeOfParts 64 = .ok (.iload_n 3, 1) := by decide +kernel
theorem dX3_concludeOfParts_65 : decode cX3_concludeOfParts 65 = .ok (.aaload, 1) := by decide +kernel
theorem dX3_concludeOfParts_66 : decode cX3_concludeOfParts 66 = .ok (.aload_n 0, 1) := by decide +kernel
theorem dX3_concludeOfParts_67 : decode cX3_concludeOfParts 67 = .ok (.getfield 22, 3) := by decide +kernel
theorem dX3_concludeOfParts_70 : decode cX3_concludeOfParts 70 = .ok (.iload_n 3, 1) := by decide +kernel
theorem dX3_concludeOfParts_71 : decode cX3_concludeOfParts 71 = .ok (.iconst 1, 1) := by decide +kernel
theorem dX3_concludeOfParts_72 : decode cX3_concludeOfParts 72 = .ok (.iadd, 1) := by decide +kernel
theorem dX3_concludeOfParts_73 : decode cX3_concludeOfParts 73 = .ok (.aaload, 1) := by decide +kernel
theorem dX3_concludeOfParts_74 : decode cX3_concludeOfParts 74 = .ok (.aload_n 0, 1) := by decide +kernel
theorem dX3_concludeOfParts_75 : decode cX3_concludeOfParts 75 = .ok (.iload_n 2, 1) := by decide +kernel
theorem dX3_concludeOfParts_76 : decode cX3_concludeOfParts 76 = .ok (.iconst 1, 1) := by decide +kernel
theorem dX3_concludeOfParts_77 : decode cX3_concludeOfParts 77 = .ok (.invokevirtual 109, 3) := by decide +kernel
theorem dX3_concludeOfParts_80 : decode cX3_concludeOfParts 80 = .ok (.invokevirtual 227, 3) := by decide +kernel
theorem dX3_concludeOfParts_83 : decode cX3_concludeOfParts 83 = .ok (.ireturn, 1) := by decide +kernel
theorem dX3_concludeOfParts_84 : decode cX3_concludeOfParts 84 = .ok (.aload_n 0, 1) := by decide +kernel
theorem dX3_concludeOfParts_85 : decode cX3_concludeOfParts 85 = .ok (.getfield 45, 3) := by decide +kernel
theorem dX3_concludeOfParts_88 : decode cX3_concludeOfParts 88 = .ok (.aload_n 0, 1) := by decide +kernel
theorem dX3_concludeOfParts_89 : decode cX3_concludeOfParts 89 = .ok (.getfield 37, 3) := by decide +kernel
theorem dX3_concludeOfParts_92 : decode cX3_concludeOfParts 92 = .ok (.aload_n 0, 1) := by decide +kernel
theorem dX3_concludeOfParts_93 : decode cX3_concludeOfParts 93 = .ok (.getfield 37, 3) := by decide +kernel
theorem dX3_concludeOfParts_96 : decode cX3_concludeOfParts 96 = .ok (.iload_n 2, 1) := by decide +kernel
theorem dX3_concludeOfParts_97 : decode cX3_concludeOfParts 97 = .ok (.invokevirtual 131, 3) := by decide +kernel
theorem dX3_concludeOfParts_100 : decode cX3_concludeOfParts 100 = .ok (.invokevirtual 131, 3) := by decide +kernel
theorem dX3_concludeOfParts_103 : decode cX3_concludeOfParts 103 = .ok (.invokevirtual 134, 3) := by decide +kernel
theorem dX3_concludeOfParts_106 : decode cX3_concludeOfParts 106 = .ok (.pop, 1) := by decide +kernel
theorem dX3_concludeOfParts_107 : decode cX3_concludeOfParts 107 = .ok (.aload_n 0, 1) := by decide +kernel
theorem dX3_concludeOfParts_108 : decode cX3_concludeOfParts 108 = .ok (.aload_n 1, 1) := by decide +kernel
theorem dX3_concludeOfParts_109 : decode cX3_concludeOfParts 109 = .ok (.aload_n 0, 1) := by decide +kernel
theorem dX3_concludeOfParts_110 : decode cX3_concludeOfParts 110 = .ok (.getfield 22, 3) := by decide +kernel
theorem dX3_concludeOfParts_113 : decode cX3_concludeOfParts 113 = .ok (.iload_n 3, 1) := by decide +kernel
theorem dX3_concludeOfParts_114 : decode cX3_concludeOfParts 114 = .ok (.aaload, 1) := by decide +kernel
theorem dX3_concludeOfParts_115 : decode cX3_concludeOfParts 115 = .ok (.iconst 1, 1) := by decide +kernel
theorem dX3_concludeOfParts_116 : decode cX3_concludeOfParts 116 = .ok (.invokevirtual 231, 3) := by decide +kernel
theorem dX3_concludeOfParts_119 : decode cX3_concludeOfParts 119 = .ok (.iconst 1, 1) := by decide +kernel
theorem dX3_concludeOfParts_120 : decode cX3_concludeOfParts 120 = .ok (.ireturn, 1) := by decide +kernel
theorem dX3_concludeOfParts_121 : decode cX3_concludeOfParts 121 = .ok (.aload_n 0, 1) := by decide +kernel
theorem dX3_concludeOfParts_122 : decode cX3_concludeOfParts 122 = .ok (.getfield 22, 3) := by decide +kernel
theorem dX3_concludeOfParts_125 : decode cX3_concludeOfParts 125 = .ok (.iload_n 3, 1) := by decide +kernel
theorem dX3_concludeOfParts_126 : decode cX3_concludeOfParts 126 = .ok (.aaload, 1) := by decide +kernel
theorem dX3_concludeOfParts_127 : decode cX3_concludeOfParts 127 = .ok (.astore 4, 2) := by decide +kernel
theorem dX3_concludeOfParts_129 : decode cX3_concludeOfParts 129 = .ok (.aload 4, 2) := by decide +kernel
theorem dX3_concludeOfParts_131 : decode cX3_concludeOfParts 131 = .ok (.getfield 234, 3) := by decide +kernel
theorem dX3_concludeOfParts_134 : decode cX3_concludeOfParts 134 = .ok (.ifCond .le 13, 3) := by decide +kernel
theorem dX3_concludeOfParts_137 : decode cX3_concludeOfParts 137 = .ok (.aload 4, 2) := by decide +kernel
theorem dX3_concludeOfParts_139 : decode cX3_concludeOfParts 139 = .ok (.getfield 237, 3) := by decide +kernel
theorem dX3_concludeOfParts_142 : decode cX3_concludeOfParts 142 = .ok (.iconst 0, 1) := by decide +kernel
theorem dX3_concludeOfParts_143 : decode cX3_concludeOfParts 143 = .ok (.iaload, 1) := by decide +kernel
theorem dX3_concludeOfParts_144 : decode cX3_concludeOfParts 144 = .ok (.goto 4, 3) := by decide +kernel
theorem dX3_concludeOfParts_147 : decode cX3_concludeOfParts 147 = .ok (.iconst (-1), 1) := by decide +kernel
theorem dX3_concludeOfParts_148 : decode cX3_concludeOfParts 148 = .ok (.istore 5, 2) := by decide +kernel
theorem dX3_concludeOfParts_150 : decode cX3_concludeOfParts 150 = .ok (.aload_n 0, 1) := by decide +kernel
theorem dX3_concludeOfParts_151 : decode cX3_concludeOfParts 151 = .ok (.getfield 37, 3) := by decide +kernel
theorem dX3_concludeOfParts_154 : decode cX3_concludeOfParts 154 = .ok (.iload 5, 2) := by decide +kernel
theorem dX3_concludeOfParts_156 : decode cX3_concludeOfParts 156 = .ok (.iconst 4, 1) := by decide +kernel
theorem dX3_concludeOfParts_157 : decode cX3_concludeOfParts 157 = .ok (.invokevirtual 240, 3) := by decide +kernel
theorem dX3_concludeOfParts_160 : decode cX3_concludeOfParts 160 = .ok (.ifCond .ne 5, 3) := by decide +kernel
theorem dX3_concludeOfParts_163 : decode cX3_concludeOfParts 163 = .ok (.iconst 0, 1) := by decide +kernel
theorem dX3_concludeOfParts_164 : decode cX3_concludeOfParts 164 = .ok (.ireturn, 1) := by decide +kernel
theorem dX3_concludeOfParts_165 : decode cX3_concludeOfParts 165 = .ok (.aload_n 0, 1) := by decide +kernel
theorem dX3_concludeOfParts_166 : decode cX3_concludeOfParts 166 = .ok (.getfield 37, 3) := by decide +kernel
theorem dX3_concludeOfParts_169 : decode cX3_concludeOfParts 169 = .ok (.iload_n 2, 1) := by decide +kernel
theorem dX3_concludeOfParts_170 : decode cX3_concludeOfParts 170 = .ok (.invokevirtual 89, 3) := by decide +kernel
theorem dX3_concludeOfParts_173 : decode cX3_concludeOfParts 173 = .ok (.bipush 41, 2) := by decide +kernel
theorem dX3_concludeOfParts_175 : decode cX3_concludeOfParts 175 = .ok (.if_icmp .ne 31, 3) := by decide +kernel
theorem dX3_concludeOfParts_178 : decode cX3_concludeOfParts 178 = .ok (.aload_n 0, 1) := by decide +kernel
theorem dX3_concludeOfParts_179 : decode cX3_concludeOfParts 179 = .ok (.aload_n 1, 1) := by decide +kernel
theorem dX3_concludeOfParts_180 : decode cX3_concludeOfParts 180 = .ok (.aload_n 0, 1) := by decide +kernel
theorem dX3_concludeOfParts_181 : decode cX3_concludeOfParts 181 = .ok (.getfield 37, 3) := by decide +kernel
theorem dX3_concludeOfParts_184 : decode cX3_concludeOfParts 184 = .ok (.iload 5, 2) := by decide +kernel
theorem dX3_concludeOfParts_186 : decode cX3_concludeOfParts 186 = .ok (.iconst 2, 1) := by decide +kernel
theorem dX3_concludeOfParts_187 : decode cX3_concludeOfParts 187 = .ok (.invokevirtual 67, 3) := by decide +kernel
theorem dX3_concludeOfParts_190 : decode cX3_concludeOfParts 190 = .ok (.aload_n 0, 1) := by decide +kernel
theorem dX3_concludeOfParts_191 : decode cX3_concludeOfParts 191 = .ok (.getfield 37, 3) := by decide +kernel
theorem dX3_concludeOfParts_194 : decode cX3_concludeOfParts 194 = .ok (.iload 5, 2) := by decide +kernel
theorem dX3_concludeOfParts_196 : decode cX3_concludeOfParts 196 = .ok (.iconst 1, 1) := by decide +kernel
theorem dX3_concludeOfParts_197 : decode cX3_concludeOfParts 197 = .ok (.invokevirtual 67, 3) := by decide +kernel
theorem dX3_concludeOfParts_200 : decode cX3_concludeOfParts 200 = .ok (.invokevirtual 189, 3) := by decide +kernel
theorem dX3_concludeOfParts_203 : decode cX3_concludeOfParts 203 = .ok (.goto 51, 3) := by decide +kernel
theorem dX3_concludeOfParts_206 : decode cX3_concludeOfParts 206 = .ok (.aload_n 0, 1) := by decide +kernel
theorem dX3_concludeOfParts_207 : decode cX3_concludeOfParts 207 = .ok (.getfield 45, 3) := by decide +kernel
theorem dX3_concludeOfParts_210 : decode cX3_concludeOfParts 210 = .ok (.aload_n 0, 1) := by decide +kernel
theorem dX3_concludeOfParts_211 : decode cX3_concludeOfParts 211 = .ok (.getfield 37, 3) := by decide +kernel
theorem dX3_concludeOfParts_214 : decode cX3_concludeOfParts 214 = .ok (.iload 5, 2) := by decide +kernel
theorem dX3_concludeOfParts_216 : decode cX3_concludeOfParts 216 = .ok (.iconst 1, 1) := by decide +kernel
theorem dX3_concludeOfParts_217 : decode cX3_concludeOfParts 217 = .ok (.invokevirtual 67, 3) := by decide +kernel
theorem dX3_concludeOfParts_220 : decode cX3_concludeOfParts 220 = .ok (.putfield 244, 3) := by decide +kernel
theorem dX3_concludeOfParts_223 : decode cX3_concludeOfParts 223 = .ok (.aload_n 0, 1) := by decide +kernel
theorem dX3_concludeOfParts_224 : decode cX3_concludeOfParts 224 = .ok (.getfield 45, 3) := by decide +kernel
theorem dX3_concludeOfParts_227 : decode cX3_concludeOfParts 227 = .ok (.aload_n 0, 1) := by decide +kernel
theorem dX3_concludeOfParts_228 : decode cX3_concludeOfParts 228 = .ok (.getfield 37, 3) := by decide +kernel
theorem dX3_concludeOfParts_231 : decode cX3_concludeOfParts 231 = .ok (.iload 5, 2) := by decide +kernel
theorem dX3_concludeOfParts_233 : decode cX3_concludeOfParts 233 = .ok (.iconst 2, 1) := by decide +kernel
theorem dX3_concludeOfParts_234 : decode cX3_concludeOfParts 234 = .ok (.invokevirtual 67, 3) := by decide +kernel
theorem dX3_concludeOfParts_237 : decode cX3_concludeOfParts 237 = .ok (.putfield 247, 3) := by decide +kernel
theorem dX3_concludeOfParts_240 : decode cX3_concludeOfParts 240 = .ok (.aload_n 0, 1) := by decide +kernel
theorem dX3_concludeOfParts_241 : decode cX3_concludeOfParts 241 = .ok (.aload_n 1, 1) := by decide +kernel
theorem dX3_concludeOfParts_242 : decode cX3_concludeOfParts 242 = .ok (.aload_n 0, 1) := by decide +kernel
theorem dX3_concludeOfParts_243 : decode cX3_concludeOfParts 243 = .ok (.getfield 22, 3) := by decide +kernel
theorem dX3_concludeOfParts_246 : decode cX3_concludeOfParts 246 = .ok (.iload_n 3, 1) := by decide +kernel
theorem dX3_concludeOfParts_247 : decode cX3_concludeOfParts 247 = .ok (.iconst 1, 1) := by decide +kernel
theorem dX3_concludeOfParts_248 : decode cX3_concludeOfParts 248 = .ok (.iadd, 1) := by decide +kernel
theorem dX3_concludeOfParts_249 : decode cX3_concludeOfParts 249 = .ok (.aaload, 1) := by decide +kernel
theorem dX3_concludeOfParts_250 : decode cX3_concludeOfParts 250 = .ok (.iconst 2, 1) := by decide +kernel
theorem dX3_concludeOfParts_251 : decode cX3_concludeOfParts 251 = .ok (.invokevirtual 231, 3) := by decide +kernel
theorem dX3_concludeOfParts_254 : decode cX3_concludeOfParts 254 = .ok (.aload_n 0, 1) := by decide +kernel
theorem dX3_concludeOfParts_255 : decode cX3_concludeOfParts 255 = .ok (.aload_n 1, 1) := by decide +kernel
theorem dX3_concludeOfParts_256 : decode cX3_concludeOfParts 256 = .ok (.aload 4, 2) := by decide +kernel
theorem dX3_concludeOfParts_258 : decode cX3_concludeOfParts 258 = .ok (.iload 5, 2) := by decide +kernel
theorem dX3_concludeOfParts_260 : decode cX3_concludeOfParts 260 = .ok (.invokevirtual 250, 3) := by decide +kernel
theorem dX3_concludeOfParts_263 : decode cX3_concludeOfParts 263 = .ok (.iconst 1, 1) := by decide +kernel
theorem dX3_concludeOfParts_264 : decode cX3_concludeOfParts 264 = .ok (.ireturn, 1) := by decide +kernel

section
variable {p : Program} {l : Launch} {e : Env} {R : Room} {s : State} {m : MethodId} {args : Array Value} {below : List Frame} {meth : Method} {c : Code} {H : Heap} {locs : List Loc} {Qf : State → Prop}
variable {ls : Array Slot} {D : va_G} {ca : Nat → ClassId} {A : Nat → Prop} {ad : Nat → Nat → Nat} {u : iST}
def v_3_concludeOfParts_254 (Q : Int → iST → Prop) (x1 : Int) (x4 : Int) (x5 : Int) (u : iST) : Prop :=
  v_3_joinAllBut x1 x4 x5 (fun u => 
  zt 1 (Q 1 u)) u
set_option maxRecDepth 20000 in
set_option maxHeartbeats 4000000 in
theorem f_3_concludeOfParts_254 (X : yX RX3 p m c cX3_concludeOfParts 6 s args D ca ad A) (hRf : 4 ≤ R.frames) (hRl : 105 ≤ R.locals) {Q : Int → iST → Prop} (hret : ∀ (v : Int) (u : iST) (H : Heap) (locs : List Loc) (ls : Array Slot) (pc : Nat), bz v → Q v u → yW D ca A ad s H locs u → decode cX3_concludeOfParts pc = .ok (.ireturn, 1) → W p l e R s m args below meth c H locs 0 0 Qf (F0 m pc ls [.int (jI v)])) {x1 x4 x5 : Int} (rx1 : (0 ≤ x1 ∧ x1 < 408)) (rx4 : (0 ≤ x4 ∧ x4 < 408)) (rx5 : inR x5) (hw : yW D ca A ad s H locs u) (hl : lv_has ls 6 [(0, .ref (ad 0 2)), (1, .ref (ad 4 x1.toNat)), (4, .ref (ad 4 x4.toNat)), (5, .int (jI x5))]) (h : v_3_concludeOfParts_254 Q x1 x4 x5 u) : W p l e R s m args below meth c H locs 0 0 Qf (F0 m 254 ls []) := by
  have hx := X.1.1
  have hb := X.1.2.1
  unfold v_3_concludeOfParts_254 at h
  refine lv_aload_n hx hb dX3_concludeOfParts_254 rfl (lv_at hl 0 rfl) ?_
  refine lv_aload_n hx hb dX3_concludeOfParts_255 rfl (lv_at hl 1 rfl) ?_
  refine lv_aload hx hb dX3_concludeOfParts_256 (lv_at hl 2 rfl) ?_
  refine lv_iload hx hb dX3_concludeOfParts_258 (lv_at hl 3 rfl) ?_
  refine ycV (n := 3) (e_3_joinAllBut rx1 rx4 rx5 h) 3 2 (r := (RX3, TX3, 11)) rfl yG_3_250 yD_3_joinAllBut X hw rfl yGo_3 (Nat.le_trans (Nat.le_of_ble_eq_true rfl) hRf) (Nat.le_trans (Nat.le_of_ble_eq_true rfl) hRl) rfl hl.1 (Nat.le_of_ble_eq_true rfl) rfl dX3_concludeOfParts_260 (fun u H locs h hw => ?_)
  refine lv_iconst hx hb dX3_concludeOfParts_263 (v := jI 1) rfl ?_
  exact hret _ _ _ _ _ _ h.1 h.2 hw dX3_concludeOfParts_264

def v_3_concludeOfParts_148 (Q : Int → iST → Prop) (x1 : Int) (x2 : Int) (x3 : Int) (x4 : Int) (y0 : Int) (u : iST) : Prop :=
  v_7_isCallOf y0 4 (fun v20 u => 
  br (v20 ≠ 0) (
    v_7_left x2 (fun v21 u => 
    br (v21 ≠ 41) (
      v_7_item y0 1 (fun v22 u => 
      sw (iI u 40 v22) (fun u => 
      v_7_item y0 2 (fun v23 u => 
      sw (iI u 41 v23) (fun u => 
      ov (x3 + 1) (
      bd (x3 + 1) 256 (rc (u.2.1 57 (x3 + 1)) (fun v25 => 
      v_3_joinRebuilt x1 v25 2 (fun u => 
      v_3_concludeOfParts_254 Q x1 x4 y0 u) u))))) u)) u) (
      v_7_item y0 2 (fun v28 u => 
      v_7_item y0 1 (fun v29 u => 
      v_3_joinEqual x1 v28 v29 (fun u => 
      v_3_concludeOfParts_254 Q x1 x4 y0 u) u) u) u)) u) (
    zt 0 (Q 0 u))) u
set_option maxRecDepth 20000 in
set_option maxHeartbeats 4000000 in
theorem f_3_concludeOfParts_148 (X : yX RX3 p m c cX3_concludeOfParts 6 s args D ca ad A) (hRf : 4 ≤ R.frames) (hRl : 105 ≤ R.locals) {Q : Int → iST → Prop} (hret : ∀ (v : Int) (u : iST) (H : Heap) (locs : List Loc) (ls : Array Slot) (pc : Nat), bz v → Q v u → yW D ca A ad s H locs u → decode cX3_concludeOfParts pc = .ok (.ireturn, 1) → W p l e R s m args below meth c H locs 0 0 Qf (F0 m pc ls [.int (jI v)])) {x1 x2 x3 x4 y0 : Int} (rx1 : (0 ≤ x1 ∧ x1 < 408)) (rx2 : inR x2) (rx3 : inR x3) (rx4 : (0 ≤ x4 ∧ x4 < 408)) (ry0 : inR y0) (hw : yW D ca A ad s H locs u) (hl : lv_has ls 6 [(0, .ref (ad 0 2)), (1, .ref (ad 4 x1.toNat)), (2, .int (jI x2)), (3, .int (jI x3)), (4, .ref (ad 4 x4.toNat))]) (h : v_3_concludeOfParts_148 Q x1 x2 x3 x4 y0 u) : W p l e R s m args below meth c H locs 0 0 Qf (F0 m 148 ls [.int (jI y0)]) := by
  have hx := X.1.1
  have hb := X.1.2.1
  unfold v_3_concludeOfParts_148 at h
  refine lv_istore hx hb dX3_concludeOfParts_148 hl (by decide) rfl (fun ls hl => ?_)
  have hl : lv_has ls 6 [(5, .int (jI y0)), (0, .ref (ad 0 2)), (1, .ref (ad 4 x1.toNat)), (2, .int (jI x2)), (3, .int (jI x3)), (4, .ref (ad 4 x4.toNat))] := hl
  refine lv_aload_n hx hb dX3_concludeOfParts_150 rfl (lv_at hl 1 rfl) ?_
  refine yg_3_37 X hw dX3_concludeOfParts_151 ?_
  refine lv_iload hx hb dX3_concludeOfParts_154 (lv_at hl 0 rfl) ?_
  refine lv_iconst hx hb dX3_concludeOfParts_156 (v := jI 4) rfl ?_
  refine ycI (n := 2) (e_7_isCallOf ry0 (by decide) h) 7 6 (r := (RX7, TX7, 9)) rfl yG_3_240 yD_7_isCallOf X hw rfl yGo_7 (Nat.le_trans (Nat.le_of_ble_eq_true rfl) hRf) (Nat.le_trans (Nat.le_of_ble_eq_true rfl) hRl) rfl hl.1 (Nat.le_of_ble_eq_true rfl) rfl dX3_concludeOfParts_157 (fun v20 u H locs rv20 h hw => ?_)
  refine k_if_ne hx hb rv20 dX3_concludeOfParts_160 (tgt := 165) rfl h (fun h => ?_) (fun h => ?_)
  · refine lv_aload_n hx hb dX3_concludeOfParts_165 rfl (lv_at hl 1 rfl) ?_
    refine yg_3_37 X hw dX3_concludeOfParts_166 ?_
    refine lv_iload_n hx hb dX3_concludeOfParts_169 rfl (lv_at hl 3 rfl) ?_
    refine ycI (n := 1) (e_7_left rx2 h) 7 6 (r := (RX7, TX7, 9)) rfl yG_3_89 yD_7_left X hw rfl yGo_7 (Nat.le_trans (Nat.le_of_ble_eq_true rfl) hRf) (Nat.le_trans (Nat.le_of_ble_eq_true rfl) hRl) rfl hl.1 (Nat.le_of_ble_eq_true rfl) rfl dX3_concludeOfParts_170 (fun v21 u H locs rv21 h hw => ?_)
    refine lv_bipush hx hb dX3_concludeOfParts_173 (v := jI 41) rfl ?_
    refine k_icmp_ne hx hb rv21 (by decide) dX3_concludeOfParts_175 (tgt := 206) rfl h (fun h => ?_) (fun h => ?_)
    · refine lv_aload_n hx hb dX3_concludeOfParts_206 rfl (lv_at hl 1 rfl) ?_
      refine yg_3_45 X hw dX3_concludeOfParts_207 ?_
      refine lv_aload_n hx hb dX3_concludeOfParts_210 rfl (lv_at hl 1 rfl) ?_
      refine yg_3_37 X hw dX3_concludeOfParts_211 ?_
      refine lv_iload hx hb dX3_concludeOfParts_214 (lv_at hl 0 rfl) ?_
      refine lv_iconst hx hb dX3_concludeOfParts_216 (v := jI 1) rfl ?_
      refine ycI (n := 2) (e_7_item ry0 (by decide) h) 7 6 (r := (RX7, TX7, 9)) rfl yG_3_67 yD_7_item X hw rfl yGo_7 (Nat.le_trans (Nat.le_of_ble_eq_true rfl) hRf) (Nat.le_trans (Nat.le_of_ble_eq_true rfl) hRl) rfl hl.1 (Nat.le_of_ble_eq_true rfl) rfl dX3_concludeOfParts_217 (fun v22 u H locs rv22 h hw => ?_)
      refine yp_3_244 X hw rv22 dX3_concludeOfParts_220 h (fun H locs u hw h => ?_)
      refine lv_aload_n hx hb dX3_concludeOfParts_223 rfl (lv_at hl 1 rfl) ?_
      refine yg_3_45 X hw dX3_concludeOfParts_224 ?_
      refine lv_aload_n hx hb dX3_concludeOfParts_227 rfl (lv_at hl 1 rfl) ?_
      refine yg_3_37 X hw dX3_concludeOfParts_228 ?_
      refine lv_iload hx hb dX3_concludeOfParts_231 (lv_at hl 0 rfl) ?_
      refine lv_iconst hx hb dX3_concludeOfParts_233 (v := jI 2) rfl ?_
      refine ycI (n := 2) (e_7_item ry0 (by decide) h) 7 6 (r := (RX7, TX7, 9)) rfl yG_3_67 yD_7_item X hw rfl yGo_7 (Nat.le_trans (Nat.le_of_ble_eq_true rfl) hRf) (Nat.le_trans (Nat.le_of_ble_eq_true rfl) hRl) rfl hl.1 (Nat.le_of_ble_eq_true rfl) rfl dX3_concludeOfParts_234 (fun v23 u H locs rv23 h hw => ?_)
      refine yp_3_247 X hw rv23 dX3_concludeOfParts_237 h (fun H locs u hw h => ?_)
      refine lv_aload_n hx hb dX3_concludeOfParts_240 rfl (lv_at hl 1 rfl) ?_
      refine lv_aload_n hx hb dX3_concludeOfParts_241 rfl (lv_at hl 2 rfl) ?_
      refine lv_aload_n hx hb dX3_concludeOfParts_242 rfl (lv_at hl 1 rfl) ?_
      refine yg_3_22 X hw dX3_concludeOfParts_243 ?_
      refine lv_iload_n hx hb dX3_concludeOfParts_246 rfl (lv_at hl 4 rfl) ?_
      refine lv_iconst hx hb dX3_concludeOfParts_247 (v := jI 1) rfl ?_
      refine k_iadd hx hb dX3_concludeOfParts_248 h (fun r24 h => ?_)
      refine yx_7 X hw r24 dX3_concludeOfParts_249 h (fun v25 rv25 h => ?_)
      refine lv_iconst hx hb dX3_concludeOfParts_250 (v := jI 2) rfl ?_
      refine ycV (n := 3) (e_3_joinRebuilt rx1 rv25 (by decide) h) 3 2 (r := (RX3, TX3, 11)) rfl yG_3_231 yD_3_joinRebuilt X hw rfl yGo_3 (Nat.le_trans (Nat.le_of_ble_eq_true rfl) hRf) (Nat.le_trans (Nat.le_of_ble_eq_true rfl) hRl) rfl hl.1 (Nat.le_of_ble_eq_true rfl) rfl dX3_concludeOfParts_251 (fun u H locs h hw => ?_)
      exact f_3_concludeOfParts_254 X hRf hRl hret rx1 rx4 ry0 hw (lv_sub hl [1, 2, 5, 0] rfl) h
    · refine lv_aload_n hx hb dX3_concludeOfParts_178 rfl (lv_at hl 1 rfl) ?_
      refine lv_aload_n hx hb dX3_concludeOfParts_179 rfl (lv_at hl 2 rfl) ?_
      refine lv_aload_n hx hb dX3_concludeOfParts_180 rfl (lv_at hl 1 rfl) ?_
      refine yg_3_37 X hw dX3_concludeOfParts_181 ?_
      refine lv_iload hx hb dX3_concludeOfParts_184 (lv_at hl 0 rfl) ?_
      refine lv_iconst hx hb dX3_concludeOfParts_186 (v := jI 2) rfl ?_
      refine ycI (n := 2) (e_7_item ry0 (by decide) h) 7 6 (r := (RX7, TX7, 9)) rfl yG_3_67 yD_7_item X hw rfl yGo_7 (Nat.le_trans (Nat.le_of_ble_eq_true rfl) hRf) (Nat.le_trans (Nat.le_of_ble_eq_true rfl) hRl) rfl hl.1 (Nat.le_of_ble_eq_true rfl) rfl dX3_concludeOfParts_187 (fun v28 u H locs rv28 h hw => ?_)
      refine lv_aload_n hx hb dX3_concludeOfParts_190 rfl (lv_at hl 1 rfl) ?_
      refine yg_3_37 X hw dX3_concludeOfParts_191 ?_
      refine lv_iload hx hb dX3_concludeOfParts_194 (lv_at hl 0 rfl) ?_
      refine lv_iconst hx hb dX3_concludeOfParts_196 (v := jI 1) rfl ?_
      refine ycI (n := 2) (e_7_item ry0 (by decide) h) 7 6 (r := (RX7, TX7, 9)) rfl yG_3_67 yD_7_item X hw rfl yGo_7 (Nat.le_trans (Nat.le_of_ble_eq_true rfl) hRf) (Nat.le_trans (Nat.le_of_ble_eq_true rfl) hRl) rfl hl.1 (Nat.le_of_ble_eq_true rfl) rfl dX3_concludeOfParts_197 (fun v29 u H locs rv29 h hw => ?_)
      refine ycV (n := 3) (e_3_joinEqual rx1 rv28 rv29 h) 3 2 (r := (RX3, TX3, 11)) rfl yG_3_189 yD_3_joinEqual X hw rfl yGo_3 (Nat.le_trans (Nat.le_of_ble_eq_true rfl) hRf) (Nat.le_trans (Nat.le_of_ble_eq_true rfl) hRl) rfl hl.1 (Nat.le_of_ble_eq_true rfl) rfl dX3_concludeOfParts_200 (fun u H locs h hw => ?_)
      refine lv_goto hx hb dX3_concludeOfParts_203 (tgt := 254) rfl ?_
      exact f_3_concludeOfParts_254 X hRf hRl hret rx1 rx4 ry0 hw (lv_sub hl [1, 2, 5, 0] rfl) h
  · refine lv_iconst hx hb dX3_concludeOfParts_163 (v := jI 0) rfl ?_
    exact hret _ _ _ _ _ _ h.1 h.2 hw dX3_concludeOfParts_164

def v_3_concludeOfParts (a0 : Int) (a1 : Int) (a2 : Int) (Q : Int → iST → Prop) (u : iST) : Prop :=
  v_7_left a1 (fun v1 u => 
  br (v1 = 38) (
    bd a2 256 (rc (u.2.1 57 a2) (fun v2 => 
    v_7_item a1 1 (fun v3 u => 
    v_3_concludeWeak a0 v2 v3 (fun u => 
    zt 1 (Q 1 u)) u) u))) (
  br (v1 = 39) (
    bd a2 256 (rc (u.2.1 57 a2) (fun v6 => 
    ov (a2 + 1) (
    bd (a2 + 1) 256 (rc (u.2.1 57 (a2 + 1)) (fun v8 => 
    v_3_termAt a1 1 (fun v9 u => 
    v_3_isCut a0 v6 v8 v9 (fun v10 u => 
    zt v10 (Q v10 u)) u) u)))))) (
  br (v1 = 40) (
    v_7_right a1 (fun v12 u => 
    v_7_right v12 (fun v13 u => 
    v_10_bindPairs v13 (fun v14 u => 
    bd a2 256 (rc (u.2.1 57 a2) (fun v15 => 
    v_3_joinRebuilt a0 v15 1 (fun u => 
    zt 1 (Q 1 u)) u))) u) u) u) (
  bd a2 256 (rc (u.2.1 57 a2) (fun v18 => 
  rd (u.2.1 46 v18) (fun v19 => 
  br (v19 ≤ 0) (
    v_3_concludeOfParts_148 Q a0 a1 a2 v18 (-1) u) (
    bd 0 30 (rd (u.2.1 49 (30 * v18 + 0)) (fun v31 => 
    v_3_concludeOfParts_148 Q a0 a1 a2 v18 v31 u)))))))))) u
set_option maxRecDepth 20000 in
set_option maxHeartbeats 4000000 in
theorem f_3_concludeOfParts_s (X : yX RX3 p m c cX3_concludeOfParts 6 s args D ca ad A) (hRf : 4 ≤ R.frames) (hRl : 105 ≤ R.locals) {Q : Int → iST → Prop} (hret : ∀ (v : Int) (u : iST) (H : Heap) (locs : List Loc) (ls : Array Slot) (pc : Nat), bz v → Q v u → yW D ca A ad s H locs u → decode cX3_concludeOfParts pc = .ok (.ireturn, 1) → W p l e R s m args below meth c H locs 0 0 Qf (F0 m pc ls [.int (jI v)])) {a0 a1 a2 : Int} (ra0 : (0 ≤ a0 ∧ a0 < 408)) (ra1 : inR a1) (ra2 : inR a2) (hw : yW D ca A ad s H locs u) (hl : lv_has ls 6 [(0, .ref (ad 0 2)), (1, .ref (ad 4 a0.toNat)), (2, .int (jI a1)), (3, .int (jI a2))]) (h : v_3_concludeOfParts a0 a1 a2 Q u) : W p l e R s m args below meth c H locs 0 0 Qf (F0 m 0 ls []) := by
  have hx := X.1.1
  have hb := X.1.2.1
  unfold v_3_concludeOfParts at h
  refine lv_aload_n hx hb dX3_concludeOfParts_0 rfl (lv_at hl 0 rfl) ?_
  refine yg_3_37 X hw dX3_concludeOfParts_1 ?_
  refine lv_iload_n hx hb dX3_concludeOfParts_4 rfl (lv_at hl 2 rfl) ?_
  refine ycI (n := 1) (e_7_left ra1 h) 7 6 (r := (RX7, TX7, 9)) rfl yG_3_89 yD_7_left X hw rfl yGo_7 (Nat.le_trans (Nat.le_of_ble_eq_true rfl) hRf) (Nat.le_trans (Nat.le_of_ble_eq_true rfl) hRl) rfl hl.1 (Nat.le_of_ble_eq_true rfl) rfl dX3_concludeOfParts_5 (fun v1 u H locs rv1 h hw => ?_)
  refine br_sp h (fun ek h => ?_) (fun n5 h => ?_)
  · refine k_tabIn (tgt := 36) (off := 28) hx hb dX3_concludeOfParts_8 ek (by decide) (by decide) rfl rfl ?_
    refine lv_aload_n hx hb dX3_concludeOfParts_36 rfl (lv_at hl 0 rfl) ?_
    refine lv_aload_n hx hb dX3_concludeOfParts_37 rfl (lv_at hl 1 rfl) ?_
    refine lv_aload_n hx hb dX3_concludeOfParts_38 rfl (lv_at hl 0 rfl) ?_
    refine yg_3_22 X hw dX3_concludeOfParts_39 ?_
    refine lv_iload_n hx hb dX3_concludeOfParts_42 rfl (lv_at hl 3 rfl) ?_
    refine yx_7 X hw ra2 dX3_concludeOfParts_43 h (fun v2 rv2 h => ?_)
    refine lv_aload_n hx hb dX3_concludeOfParts_44 rfl (lv_at hl 0 rfl) ?_
    refine yg_3_37 X hw dX3_concludeOfParts_45 ?_
    refine lv_iload_n hx hb dX3_concludeOfParts_48 rfl (lv_at hl 2 rfl) ?_
    refine lv_iconst hx hb dX3_concludeOfParts_49 (v := jI 1) rfl ?_
    refine ycI (n := 2) (e_7_item ra1 (by decide) h) 7 6 (r := (RX7, TX7, 9)) rfl yG_3_67 yD_7_item X hw rfl yGo_7 (Nat.le_trans (Nat.le_of_ble_eq_true rfl) hRf) (Nat.le_trans (Nat.le_of_ble_eq_true rfl) hRl) rfl hl.1 (Nat.le_of_ble_eq_true rfl) rfl dX3_concludeOfParts_50 (fun v3 u H locs rv3 h hw => ?_)
    refine ycV (n := 3) (e_3_concludeWeak ra0 rv2 rv3 h) 3 2 (r := (RX3, TX3, 11)) rfl yG_3_223 yD_3_concludeWeak X hw rfl yGo_3 (Nat.le_trans (Nat.le_of_ble_eq_true rfl) hRf) (Nat.le_trans (Nat.le_of_ble_eq_true rfl) hRl) rfl hl.1 (Nat.le_of_ble_eq_true rfl) rfl dX3_concludeOfParts_53 (fun u H locs h hw => ?_)
    refine lv_iconst hx hb dX3_concludeOfParts_56 (v := jI 1) rfl ?_
    exact hret _ _ _ _ _ _ h.1 h.2 hw dX3_concludeOfParts_57
  refine br_sp h (fun ek h => ?_) (fun n11 h => ?_)
  · refine k_tabIn (tgt := 58) (off := 50) hx hb dX3_concludeOfParts_8 ek (by decide) (by decide) rfl rfl ?_
    refine lv_aload_n hx hb dX3_concludeOfParts_58 rfl (lv_at hl 0 rfl) ?_
    refine lv_aload_n hx hb dX3_concludeOfParts_59 rfl (lv_at hl 1 rfl) ?_
    refine lv_aload_n hx hb dX3_concludeOfParts_60 rfl (lv_at hl 0 rfl) ?_
    refine yg_3_22 X hw dX3_concludeOfParts_61 ?_
    refine lv_iload_n hx hb dX3_concludeOfParts_64 rfl (lv_at hl 3 rfl) ?_
    refine yx_7 X hw ra2 dX3_concludeOfParts_65 h (fun v6 rv6 h => ?_)
    refine lv_aload_n hx hb dX3_concludeOfParts_66 rfl (lv_at hl 0 rfl) ?_
    refine yg_3_22 X hw dX3_concludeOfParts_67 ?_
    refine lv_iload_n hx hb dX3_concludeOfParts_70 rfl (lv_at hl 3 rfl) ?_
    refine lv_iconst hx hb dX3_concludeOfParts_71 (v := jI 1) rfl ?_
    refine k_iadd hx hb dX3_concludeOfParts_72 h (fun r7 h => ?_)
    refine yx_7 X hw r7 dX3_concludeOfParts_73 h (fun v8 rv8 h => ?_)
    refine lv_aload_n hx hb dX3_concludeOfParts_74 rfl (lv_at hl 0 rfl) ?_
    refine lv_iload_n hx hb dX3_concludeOfParts_75 rfl (lv_at hl 2 rfl) ?_
    refine lv_iconst hx hb dX3_concludeOfParts_76 (v := jI 1) rfl ?_
    refine ycI (n := 2) (e_3_termAt ra1 (by decide) h) 3 2 (r := (RX3, TX3, 11)) rfl yG_3_109 yD_3_termAt X hw rfl yGo_3 (Nat.le_trans (Nat.le_of_ble_eq_true rfl) hRf) (Nat.le_trans (Nat.le_of_ble_eq_true rfl) hRl) rfl hl.1 (Nat.le_of_ble_eq_true rfl) rfl dX3_concludeOfParts_77 (fun v9 u H locs rv9 h hw => ?_)
    refine ycI (n := 4) (e_3_isCut ra0 rv6 rv8 rv9 h) 3 2 (r := (RX3, TX3, 11)) rfl yG_3_227 yD_3_isCut X hw rfl yGo_3 (Nat.le_trans (Nat.le_of_ble_eq_true rfl) hRf) (Nat.le_trans (Nat.le_of_ble_eq_true rfl) hRl) rfl hl.1 (Nat.le_of_ble_eq_true rfl) rfl dX3_concludeOfParts_80 (fun v10 u H locs rv10 h hw => ?_)
    exact hret _ _ _ _ _ _ h.1 h.2 hw dX3_concludeOfParts_83
  refine br_sp h (fun ek h => ?_) (fun n17 h => ?_)
  · refine k_tabIn (tgt := 84) (off := 76) hx hb dX3_concludeOfParts_8 ek (by decide) (by decide) rfl rfl ?_
    refine lv_aload_n hx hb dX3_concludeOfParts_84 rfl (lv_at hl 0 rfl) ?_
    refine yg_3_45 X hw dX3_concludeOfParts_85 ?_
    refine lv_aload_n hx hb dX3_concludeOfParts_88 rfl (lv_at hl 0 rfl) ?_
    refine yg_3_37 X hw dX3_concludeOfParts_89 ?_
    refine lv_aload_n hx hb dX3_concludeOfParts_92 rfl (lv_at hl 0 rfl) ?_
    refine yg_3_37 X hw dX3_concludeOfParts_93 ?_
    refine lv_iload_n hx hb dX3_concludeOfParts_96 rfl (lv_at hl 2 rfl) ?_
    refine ycI (n := 1) (e_7_right ra1 h) 7 6 (r := (RX7, TX7, 9)) rfl yG_3_131 yD_7_right X hw rfl yGo_7 (Nat.le_trans (Nat.le_of_ble_eq_true rfl) hRf) (Nat.le_trans (Nat.le_of_ble_eq_true rfl) hRl) rfl hl.1 (Nat.le_of_ble_eq_true rfl) rfl dX3_concludeOfParts_97 (fun v12 u H locs rv12 h hw => ?_)
    refine ycI (n := 1) (e_7_right rv12 h) 7 6 (r := (RX7, TX7, 9)) rfl yG_3_131 yD_7_right X hw rfl yGo_7 (Nat.le_trans (Nat.le_of_ble_eq_true rfl) hRf) (Nat.le_trans (Nat.le_of_ble_eq_true rfl) hRl) rfl hl.1 (Nat.le_of_ble_eq_true rfl) rfl dX3_concludeOfParts_100 (fun v13 u H locs rv13 h hw => ?_)
    refine ycI (n := 1) (e_10_bindPairs rv13 h) 10 8 (r := (RX10, TX10, 16)) rfl yG_3_134 yD_10_bindPairs X hw rfl yGo_10 (Nat.le_trans (Nat.le_of_ble_eq_true rfl) hRf) (Nat.le_trans (Nat.le_of_ble_eq_true rfl) hRl) rfl hl.1 (Nat.le_of_ble_eq_true rfl) rfl dX3_concludeOfParts_103 (fun v14 u H locs rv14 h hw => ?_)
    refine lv_pop hx hb dX3_concludeOfParts_106 rfl ?_
    refine lv_aload_n hx hb dX3_concludeOfParts_107 rfl (lv_at hl 0 rfl) ?_
    refine lv_aload_n hx hb dX3_concludeOfParts_108 rfl (lv_at hl 1 rfl) ?_
    refine lv_aload_n hx hb dX3_concludeOfParts_109 rfl (lv_at hl 0 rfl) ?_
    refine yg_3_22 X hw dX3_concludeOfParts_110 ?_
    refine lv_iload_n hx hb dX3_concludeOfParts_113 rfl (lv_at hl 3 rfl) ?_
    refine yx_7 X hw ra2 dX3_concludeOfParts_114 h (fun v15 rv15 h => ?_)
    refine lv_iconst hx hb dX3_concludeOfParts_115 (v := jI 1) rfl ?_
    refine ycV (n := 3) (e_3_joinRebuilt ra0 rv15 (by decide) h) 3 2 (r := (RX3, TX3, 11)) rfl yG_3_231 yD_3_joinRebuilt X hw rfl yGo_3 (Nat.le_trans (Nat.le_of_ble_eq_true rfl) hRf) (Nat.le_trans (Nat.le_of_ble_eq_true rfl) hRl) rfl hl.1 (Nat.le_of_ble_eq_true rfl) rfl dX3_concludeOfParts_116 (fun u H locs h hw => ?_)
    refine lv_iconst hx hb dX3_concludeOfParts_119 (v := jI 1) rfl ?_
    exact hret _ _ _ _ _ _ h.1 h.2 hw dX3_concludeOfParts_120
  refine k_tabOut (tgt := 121) hx hb rv1 dX3_concludeOfParts_8 (by omega) rfl ?_
  refine lv_aload_n hx hb dX3_concludeOfParts_121 rfl (lv_at hl 0 rfl) ?_
  refine yg_3_22 X hw dX3_concludeOfParts_122 ?_
  refine lv_iload_n hx hb dX3_concludeOfParts_125 rfl (lv_at hl 3 rfl) ?_
  refine yx_7 X hw ra2 dX3_concludeOfParts_126 h (fun v18 rv18 h => ?_)
  refine lv_astore hx hb dX3_concludeOfParts_127 hl (by decide) rfl (fun ls hl => ?_)
  have hl : lv_has ls 6 [(4, .ref (ad 4 v18.toNat)), (0, .ref (ad 0 2)), (1, .ref (ad 4 a0.toNat)), (2, .int (jI a1)), (3, .int (jI a2))] := hl
  refine lv_aload hx hb dX3_concludeOfParts_129 (lv_at hl 0 rfl) ?_
  refine yg_3_234 X hw dX3_concludeOfParts_131 rv18 h (fun v19 rv19 h => ?_)
  refine k_if_le hx hb rv19 dX3_concludeOfParts_134 (tgt := 147) rfl h (fun h => ?_) (fun h => ?_)
  · refine lv_iconst hx hb dX3_concludeOfParts_147 (v := jI (-1)) rfl ?_
    exact f_3_concludeOfParts_148 X hRf hRl hret ra0 ra1 ra2 rv18 (by decide) hw (lv_sub hl [1, 2, 3, 4, 0] rfl) h
  · refine lv_aload hx hb dX3_concludeOfParts_137 (lv_at hl 0 rfl) ?_
    refine yg_3_237 X hw dX3_concludeOfParts_139 rv18 ?_
    refine lv_iconst hx hb dX3_concludeOfParts_142 (v := jI 0) rfl ?_
    refine yfl_lits X hw rv18 (by decide) dX3_concludeOfParts_143 h (fun v31 rv31 h => ?_)
    refine lv_goto hx hb dX3_concludeOfParts_144 (tgt := 148) rfl ?_
    exact f_3_concludeOfParts_148 X hRf hRl hret ra0 ra1 ra2 rv18 rv31 hw (lv_sub hl [1, 2, 3, 4, 0] rfl) h

end
theorem e_3_concludeOfParts {l : Launch} {a0 : Int} {a1 : Int} {a2 : Int} (ra0 : (0 ≤ a0 ∧ a0 < 408)) (ra1 : inR a1) (ra2 : inR a2) {Q : Int → iST → Prop} {u : iST} (h : v_3_concludeOfParts a0 a1 a2 Q u) : yMI l yX3_concludeOfParts (.code yX3_concludeOfParts cX3_concludeOfParts 6 (some .boolean) :: wsN) { frames := 4, cells := 0, slots := 0, locals := 105 } (fun ad => [.ref (ad 0 2), .ref (ad 4 a0.toNat), .int (jI a1), .int (jI a2)]) Q u := yMZ_of (own := RX3) rfl (by decide +kernel) (fun _ => Nat.le_of_ble_eq_true rfl) (fun X hRf hRl hret hw hl => f_3_concludeOfParts_s X hRf hRl hret ra0 ra1 ra2 hw hl h)

/-! ProofHouse$Proofs.conclude -/
theorem dX3_conclude_0 : decode cX3_conclude 0 = .ok (.aload_n 1, 1) := by decide +kernel
theorem dX3_conclude_1 : decode cX3_conclude 1 = .ok (.iconst 0, 1) := by decide +kernel
theorem dX3_conclude_2 : decode cX3_conclude 2 = .ok (.iaload, 1) := by decide +kernel
theorem dX3_conclude_3 : decode cX3_conclude 3 = .ok (.istore_n 2, 1) := by decide +kernel
theorem dX3_conclude_4 : decode cX3_conclude 4 = .ok (.aload_n 1, 1) := by decide +kernel
theorem dX3_conclude_5 : decode cX3_conclude 5 = .ok (.iconst 3, 1) := by decide +kernel
theorem dX3_conclude_6 : decode cX3_conclude 6 = .ok (.iaload, 1) := by decide +kernel
theorem dX3_conclude_7 : decode cX3_conclude 7 = .ok (.istore_n 3, 1) := by decide +kernel
theorem dX3_conclude_8 : decode cX3_conclude 8 = .ok (.aload_n 0, 1) := by decide +kernel
theorem dX3_conclude_9 : decode cX3_conclude 9 = .ok (.getfield 26, 3) := by decide +kernel
theorem dX3_conclude_12 : decode cX3_conclude 12 = .ok (.sipush 256, 3) := by decide +kernel
theorem dX3_conclude_15 : decode cX3_conclude 15 = .ok (.if_icmp .lt 12, 3) := by decide +kernel
theorem dX3_conclude_18 : decode cX3_conclude 18 = .ok (.aload_n 0, 1) := by decide +kernel
theorem dX3_conclude_19 : decode cX3_conclude 19 = .ok (.getfield 37, 3) := by decide +kernel
theorem dX3_conclude_22 : decode cX3_conclude 22 = .ok (.iconst 4, 1) := by decide +kernel
theorem dX3_conclude_23 : decode cX3_conclude 23 = .ok (.invokevirtual 75, 3) := by decide +kernel
theorem dX3_conclude_26 : decode cX3_conclude 26 = .ok (.return_, 1) := by decide +kernel
theorem dX3_conclude_27 : decode cX3_conclude 27 = .ok (.aload_n 0, 1) := by decide +kernel
theorem dX3_conclude_28 : decode cX3_conclude 28 = .ok (.getfield 22, 3) := by decide +kernel
theorem dX3_conclude_31 : decode cX3_conclude 31 = .ok (.aload_n 0, 1) := by decide +kernel
theorem dX3_conclude_32 : decode cX3_conclude 32 = .ok (.getfield 26, 3) := by decide +kernel
theorem dX3_conclude_35 : decode cX3_conclude 35 = .ok (.aaload, 1) := by decide +kernel
theorem dX3_conclude_36 : decode cX3_conclude 36 = .ok (.astore 4, 2) := by decide +kernel
theorem dX3_conclude_38 : decode cX3_conclude 38 = .ok (.aload 4, 2) := by decide +kernel
theorem dX3_conclude_40 : decode cX3_conclude 40 = .ok (.invokevirtual 169, 3) := by decide +kernel
theorem dX3_conclude_43 : decode cX3_conclude 43 = .ok (.iconst 1, 1) := by decide +kernel
theorem dX3_conclude_44 : decode cX3_conclude 44 = .ok (.istore 5, 2) := by decide +kernel
theorem dX3_conclude_46 : decode cX3_conclude 46 = .ok (.aload_n 0, 1) := by decide +kernel
theorem dX3_conclude_47 : decode cX3_conclude 47 = .ok (.getfield 37, 3) := by decide +kernel
theorem dX3_conclude_50 : decode cX3_conclude 50 = .ok (.iload_n 2, 1) := by decide +kernel
theorem dX3_conclude_51 : decode cX3_conclude 51 = .ok (.invokevirtual 89, 3) := by decide +kernel
theorem dX3_conclude_54 : decode cX3_conclude 54 = .ok (.bipush 38, 2) := by decide +kernel
theorem dX3_conclude_56 : decode cX3_conclude 56 = .ok (.if_icmp .ge 13, 3) := by decide +kernel
theorem dX3_conclude_59 : decode cX3_conclude 59 = .ok (.aload_n 0, 1) := by decide +kernel
theorem dX3_conclude_60 : decode cX3_conclude 60 = .ok (.aload 4, 2) := by decide +kernel
theorem dX3_conclude_62 : decode cX3_conclude 62 = .ok (.iload_n 2, 1) := by decide +kernel
theorem dX3_conclude_63 : decode cX3_conclude 63 = .ok (.invokevirtual 172, 3) := by decide +kernel
theorem dX3_conclude_66 : decode cX3_conclude 66 = .ok (.goto 39, 3) := by decide +kernel
theorem dX3_conclude_69 : decode cX3_conclude 69 = .ok (.aload_n 0, 1) := by decide +kernel
theorem dX3_conclude_70 : decode cX3_conclude 70 = .ok (.getfield 37, 3) := by decide +kernel
theorem dX3_conclude_73 : decode cX3_conclude 73 = .ok (.iload_n 2, 1) := by decide +kernel
theorem dX3_conclude_74 : decode cX3_conclude 74 = .ok (.invokevirtual 89, 3) := by decide +kernel
theorem dX3_conclude_77 : decode cX3_conclude 77 = .ok (.bipush 43, 2) := by decide +kernel
theorem dX3_conclude_79 : decode cX3_conclude 79 = .ok (.if_icmp .ne 16, 3) := by decide +kernel
theorem dX3_conclude_82 : decode cX3_conclude 82 = .ok (.aload_n 0, 1) := by decide +kernel
theorem dX3_conclude_83 : decode cX3_conclude 83 = .ok (.aload 4, 2) := by decide +kernel
theorem dX3_conclude_85 : decode cX3_conclude 85 = .ok (.iload_n 2, 1) := by decide +kernel
theorem dX3_conclude_86 : decode cX3_conclude 86 = .ok (.iload_n 3, 1) := by decide +kernel
theorem dX3_conclude_87 : decode cX3_conclude 87 = .ok (.invokevirtual 176, 3) := by decide +kernel
theorem dX3_conclude_90 : decode cX3_conclude 90 = .ok (.istore 5, 2) := by decide +kernel
theorem dX3_conclude_92 : decode cX3_conclude 92 = .ok (.goto 13, 3) := by decide +kernel
theorem dX3_conclude_95 : decode cX3_conclude 95 = .ok (.aload_n 0, 1) := by decide +kernel
theorem dX3_conclude_96 : decode cX3_conclude 96 = .ok (.aload 4, 2) := by decide +kernel
theorem dX3_conclude_98 : decode cX3_conclude 98 = .ok (.iload_n 2, 1) := by decide +kernel
theorem dX3_conclude_99 : decode cX3_conclude 99 = .ok (.iload_n 3, 1) := by decide +kernel
theorem dX3_conclude_100 : decode cX3_conclude 100 = .ok (.invokevirtual 180, 3) := by decide +kernel
theorem dX3_conclude_103 : decode cX3_conclude 103 = .ok (.istore 5, 2) := by decide +kernel
theorem dX3_conclude_105 : decode cX3_conclude 105 = .ok (.aload_n 0, 1) := by decide +kernel
theorem dX3_conclude_106 : decode cX3_conclude 106 = .ok (.iload 5, 2) := by decide +kernel
theorem dX3_conclude_108 : decode cX3_conclude 108 = .ok (.ifCond .eq 7, 3) := by decide +kernel
theorem dX3_conclude_111 : decode cX3_conclude 111 = .ok (.iconst (-1), 1) := by decide +kernel
theorem dX3_conclude_112 : decode cX3_conclude 112 = .ok (.goto 4, 3) := by decide +kernel
theorem dX3_conclude_115 : decode cX3_conclude 115 = .ok (.iload_n 2, 1) := by decide +kernel
theorem dX3_conclude_116 : decode cX3_conclude 116 = .ok (.putfield 34, 3) := by decide +kernel
theorem dX3_conclude_119 : decode cX3_conclude 119 = .ok (.aload_n 0, 1) := by decide +kernel
theorem dX3_conclude_120 : decode cX3_conclude 120 = .ok (.getfield 22, 3) := by decide +kernel
theorem dX3_conclude_123 : decode cX3_conclude 123 = .ok (.aload_n 0, 1) := by decide +kernel
theorem dX3_conclude_124 : decode cX3_conclude 124 = .ok (.getfield 26, 3) := by decide +kernel
theorem dX3_conclude_127 : decode cX3_conclude 127 = .ok (.aload_n 0, 1) := by decide +kernel
theorem dX3_conclude_128 : decode cX3_conclude 128 = .ok (.getfield 22, 3) := by decide +kernel
theorem dX3_conclude_131 : decode cX3_conclude 131 = .ok (.iload_n 3, 1) := by decide +kernel
theorem dX3_conclude_132 : decode cX3_conclude 132 = .ok (.aaload, 1) := by decide +kernel
theorem dX3_conclude_133 : decode cX3_conclude 133 = .ok (.aastore, 1) := by decide +kernel
theorem dX3_conclude_134 : decode cX3_conclude 134 = .ok (.aload_n 0, 1) := by decide +kernel
theorem dX3_conclude_135 : decode cX3_conclude 135 = .ok (.getfield 22, 3) := by decide +kernel
theorem dX3_conclude_138 : decode cX3_conclude 138 = .ok (.iload_n 3, 1) := by decide +kernel
theorem dX3_conclude_139 : decode cX3_conclude 139 = .ok (.aload 4, 2) := by decide +kernel
theorem dX3_conclude_141 : decode cX3_conclude 141 = .ok (.aastore, 1) := by decide +kernel
theorem dX3_conclude_142 : decode cX3_conclude 142 = .ok (.aload_n 0, 1) := by decide +kernel
theorem dX3_conclude_143 : decode cX3_conclude 143 = .ok (.iload_n 3, 1) := by decide +kernel
theorem dX3_conclude_144 : decode cX3_conclude 144 = .ok (.iconst 1, 1) := by decide +kernel
theorem dX3_conclude_145 : decode cX3_conclude 145 = .ok (.iadd, 1) := by decide +kernel
theorem dX3_conclude_146 : decode cX3_conclude 146 = .ok (.putfield 26, 3) := by decide +kernel
theorem dX3_conclude_149 : decode cX3_conclude 149 = .ok (.aload_n 0, 1) := by decide +kernel
theorem dX3_conclude_150 : decode cX3_conclude 150 = .ok (.dup, 1) := by decide +kernel
theorem dX3_conclude_151 : decode cX3_conclude 151 = .ok (.getfield 16, 3) := by decide +kernel
theorem dX3_conclude_154 : decode cX3_conclude 154 = .ok (.iconst 1, 1) := by decide +kernel
theorem dX3_conclude_155 : decode cX3_conclude 155 = .ok (.isub, 1) := by decide +kernel
theorem dX3_conclude_156 : decode cX3_conclude 156 = .ok (.putfield 16, 3) := by decide +kernel
theorem dX3_conclude_159 : decode cX3_conclude 159 = .ok (.return_, 1) := by decide +kernel

section
variable {p : Program} {l : Launch} {e : Env} {R : Room} {s : State} {m : MethodId} {args : Array Value} {below : List Frame} {meth : Method} {c : Code} {H : Heap} {locs : List Loc} {Qf : State → Prop}
variable {ls : Array Slot} {D : va_G} {ca : Nat → ClassId} {A : Nat → Prop} {ad : Nat → Nat → Nat} {u : iST}
def v_3_conclude_116 (Q : iST → Prop) (x3 : Int) (x4 : Int) (y1 : Int) (u : iST) : Prop :=
  sw (iI u 12 y1) (fun u => 
  rd (u.1 11) (fun v10 => 
  bd x3 256 (rc (u.2.1 57 x3) (fun v11 => 
  bd v10 256 (sw (iA u 57 v10 v11) (fun u => 
  bd x3 256 (sw (iA u 57 x3 x4) (fun u => 
  ov (x3 + 1) (
  sw (iI u 11 (x3 + 1)) (fun u => 
  rd (u.1 10) (fun v13 => 
  ov (v13 - 1) (
  sw (iI u 10 (v13 - 1)) (fun u => 
  Q u)))))))))))))
set_option maxRecDepth 20000 in
set_option maxHeartbeats 4000000 in
theorem f_3_conclude_116 (X : yX RX3 p m c cX3_conclude 6 s args D ca ad A) (hRf : 5 ≤ R.frames) (hRl : 131 ≤ R.locals) {Q : iST → Prop} (hret : ∀ (u : iST) (H : Heap) (locs : List Loc) (ls : Array Slot) (pc : Nat), Q u → yW D ca A ad s H locs u → decode cX3_conclude pc = .ok (.return_, 1) → W p l e R s m args below meth c H locs 0 0 Qf (F0 m pc ls [])) {x3 x4 y1 : Int} (rx3 : inR x3) (rx4 : (0 ≤ x4 ∧ x4 < 408)) (ry1 : inR y1) (hw : yW D ca A ad s H locs u) (hl : lv_has ls 6 [(0, .ref (ad 0 2)), (3, .int (jI x3)), (4, .ref (ad 4 x4.toNat))]) (h : v_3_conclude_116 Q x3 x4 y1 u) : W p l e R s m args below meth c H locs 0 0 Qf (F0 m 116 ls [.int (jI y1), .ref (ad 0 2)]) := by
  have hx := X.1.1
  have hb := X.1.2.1
  unfold v_3_conclude_116 at h
  refine yp_3_34 X hw ry1 dX3_conclude_116 h (fun H locs u hw h => ?_)
  refine lv_aload_n hx hb dX3_conclude_119 rfl (lv_at hl 0 rfl) ?_
  refine yg_3_22 X hw dX3_conclude_120 ?_
  refine lv_aload_n hx hb dX3_conclude_123 rfl (lv_at hl 0 rfl) ?_
  refine yg_3_26 X hw dX3_conclude_124 h (fun v10 rv10 h => ?_)
  refine lv_aload_n hx hb dX3_conclude_127 rfl (lv_at hl 0 rfl) ?_
  refine yg_3_22 X hw dX3_conclude_128 ?_
  refine lv_iload_n hx hb dX3_conclude_131 rfl (lv_at hl 1 rfl) ?_
  refine yx_7 X hw rx3 dX3_conclude_132 h (fun v11 rv11 h => ?_)
  refine yxt_7 X hw rv10 rv11 dX3_conclude_133 h (fun H locs u hw h => ?_)
  refine lv_aload_n hx hb dX3_conclude_134 rfl (lv_at hl 0 rfl) ?_
  refine yg_3_22 X hw dX3_conclude_135 ?_
  refine lv_iload_n hx hb dX3_conclude_138 rfl (lv_at hl 1 rfl) ?_
  refine lv_aload hx hb dX3_conclude_139 (lv_at hl 2 rfl) ?_
  refine yxt_7 X hw rx3 rx4 dX3_conclude_141 h (fun H locs u hw h => ?_)
  refine lv_aload_n hx hb dX3_conclude_142 rfl (lv_at hl 0 rfl) ?_
  refine lv_iload_n hx hb dX3_conclude_143 rfl (lv_at hl 1 rfl) ?_
  refine lv_iconst hx hb dX3_conclude_144 (v := jI 1) rfl ?_
  refine k_iadd hx hb dX3_conclude_145 h (fun r12 h => ?_)
  refine yp_3_26 X hw r12 dX3_conclude_146 h (fun H locs u hw h => ?_)
  refine lv_aload_n hx hb dX3_conclude_149 rfl (lv_at hl 0 rfl) ?_
  refine lv_dup hx hb dX3_conclude_150 rfl ?_
  refine yg_3_16 X hw dX3_conclude_151 h (fun v13 rv13 h => ?_)
  refine lv_iconst hx hb dX3_conclude_154 (v := jI 1) rfl ?_
  refine k_isub hx hb dX3_conclude_155 h (fun r14 h => ?_)
  refine yp_3_16 X hw r14 dX3_conclude_156 h (fun H locs u hw h => ?_)
  exact hret _ _ _ _ _ h hw dX3_conclude_159

def v_3_conclude_105 (Q : iST → Prop) (x2 : Int) (x3 : Int) (x4 : Int) (x5 : Int) (u : iST) : Prop :=
  br (x5 = 0) (
    v_3_conclude_116 Q x3 x4 x2 u) (
    v_3_conclude_116 Q x3 x4 (-1) u)
set_option maxRecDepth 20000 in
set_option maxHeartbeats 4000000 in
theorem f_3_conclude_105 (X : yX RX3 p m c cX3_conclude 6 s args D ca ad A) (hRf : 5 ≤ R.frames) (hRl : 131 ≤ R.locals) {Q : iST → Prop} (hret : ∀ (u : iST) (H : Heap) (locs : List Loc) (ls : Array Slot) (pc : Nat), Q u → yW D ca A ad s H locs u → decode cX3_conclude pc = .ok (.return_, 1) → W p l e R s m args below meth c H locs 0 0 Qf (F0 m pc ls [])) {x2 x3 x4 x5 : Int} (rx2 : inR x2) (rx3 : inR x3) (rx4 : (0 ≤ x4 ∧ x4 < 408)) (rx5 : inR x5) (hw : yW D ca A ad s H locs u) (hl : lv_has ls 6 [(0, .ref (ad 0 2)), (2, .int (jI x2)), (3, .int (jI x3)), (4, .ref (ad 4 x4.toNat)), (5, .int (jI x5))]) (h : v_3_conclude_105 Q x2 x3 x4 x5 u) : W p l e R s m args below meth c H locs 0 0 Qf (F0 m 105 ls []) := by
  have hx := X.1.1
  have hb := X.1.2.1
  unfold v_3_conclude_105 at h
  refine lv_aload_n hx hb dX3_conclude_105 rfl (lv_at hl 0 rfl) ?_
  refine lv_iload hx hb dX3_conclude_106 (lv_at hl 4 rfl) ?_
  refine k_if_eq hx hb rx5 dX3_conclude_108 (tgt := 115) rfl h (fun h => ?_) (fun h => ?_)
  · refine lv_iload_n hx hb dX3_conclude_115 rfl (lv_at hl 1 rfl) ?_
    exact f_3_conclude_116 X hRf hRl hret rx3 rx4 rx2 hw (lv_sub hl [0, 2, 3] rfl) h
  · refine lv_iconst hx hb dX3_conclude_111 (v := jI (-1)) rfl ?_
    refine lv_goto hx hb dX3_conclude_112 (tgt := 116) rfl ?_
    exact f_3_conclude_116 X hRf hRl hret rx3 rx4 (by decide) hw (lv_sub hl [0, 2, 3] rfl) h

def v_3_conclude (a0 : Int) (Q : iST → Prop) (u : iST) : Prop :=
  bd 0 4 (rd (u.2.1 53 (4 * a0 + 0)) (fun v1 => 
  bd 3 4 (rd (u.2.1 53 (4 * a0 + 3)) (fun v2 => 
  rd (u.1 11) (fun v3 => 
  br (v3 < 256) (
    rd (u.1 11) (fun v4 => 
    bd v4 256 (rc (u.2.1 57 v4) (fun v5 => 
    v_1_clear v5 (fun u => 
    v_7_left v1 (fun v7 u => 
    br (38 ≤ v7) (
      v_7_left v1 (fun v8 u => 
      br (v8 ≠ 43) (
        v_3_concludeOfParts v5 v1 v2 (fun v9 u => 
        v_3_conclude_105 Q v1 v2 v5 v9 u) u) (
        v_3_isInduced v5 v1 v2 (fun v15 u => 
        v_3_conclude_105 Q v1 v2 v5 v15 u) u)) u) (
      v_3_concludeAlone v5 v1 (fun u => 
      v_3_conclude_105 Q v1 v2 v5 1 u) u)) u) u)))) (
    v_7_blame 4 (fun u => 
    Q u) u))))))
set_option maxRecDepth 20000 in
set_option maxHeartbeats 4000000 in
theorem f_3_conclude_s (X : yX RX3 p m c cX3_conclude 6 s args D ca ad A) (hRf : 5 ≤ R.frames) (hRl : 131 ≤ R.locals) {Q : iST → Prop} (hret : ∀ (u : iST) (H : Heap) (locs : List Loc) (ls : Array Slot) (pc : Nat), Q u → yW D ca A ad s H locs u → decode cX3_conclude pc = .ok (.return_, 1) → W p l e R s m args below meth c H locs 0 0 Qf (F0 m pc ls [])) {a0 : Int} (ra0 : (0 ≤ a0 ∧ a0 < 40)) (hw : yW D ca A ad s H locs u) (hl : lv_has ls 6 [(0, .ref (ad 0 2)), (1, .ref (ad 9 a0.toNat))]) (h : v_3_conclude a0 Q u) : W p l e R s m args below meth c H locs 0 0 Qf (F0 m 0 ls []) := by
  have hx := X.1.1
  have hb := X.1.2.1
  unfold v_3_conclude at h
  refine lv_aload_n hx hb dX3_conclude_0 rfl (lv_at hl 1 rfl) ?_
  refine lv_iconst hx hb dX3_conclude_1 (v := jI 0) rfl ?_
  refine yfl_pframes X hw ra0 (by decide) dX3_conclude_2 h (fun v1 rv1 h => ?_)
  refine lv_istore_n hx hb dX3_conclude_3 rfl hl (by decide) rfl (fun ls hl => ?_)
  have hl : lv_has ls 6 [(2, .int (jI v1)), (0, .ref (ad 0 2)), (1, .ref (ad 9 a0.toNat))] := hl
  refine lv_aload_n hx hb dX3_conclude_4 rfl (lv_at hl 2 rfl) ?_
  refine lv_iconst hx hb dX3_conclude_5 (v := jI 3) rfl ?_
  refine yfl_pframes X hw ra0 (by decide) dX3_conclude_6 h (fun v2 rv2 h => ?_)
  refine lv_istore_n hx hb dX3_conclude_7 rfl hl (by decide) rfl (fun ls hl => ?_)
  have hl : lv_has ls 6 [(3, .int (jI v2)), (2, .int (jI v1)), (0, .ref (ad 0 2)), (1, .ref (ad 9 a0.toNat))] := hl
  refine lv_aload_n hx hb dX3_conclude_8 rfl (lv_at hl 2 rfl) ?_
  refine yg_3_26 X hw dX3_conclude_9 h (fun v3 rv3 h => ?_)
  refine lv_sipush hx hb dX3_conclude_12 (v := jI 256) rfl ?_
  refine k_icmp_lt hx hb rv3 (by decide) dX3_conclude_15 (tgt := 27) rfl h (fun h => ?_) (fun h => ?_)
  · refine lv_aload_n hx hb dX3_conclude_27 rfl (lv_at hl 2 rfl) ?_
    refine yg_3_22 X hw dX3_conclude_28 ?_
    refine lv_aload_n hx hb dX3_conclude_31 rfl (lv_at hl 2 rfl) ?_
    refine yg_3_26 X hw dX3_conclude_32 h (fun v4 rv4 h => ?_)
    refine yx_7 X hw rv4 dX3_conclude_35 h (fun v5 rv5 h => ?_)
    refine lv_astore hx hb dX3_conclude_36 hl (by decide) rfl (fun ls hl => ?_)
    have hl : lv_has ls 6 [(4, .ref (ad 4 v5.toNat)), (3, .int (jI v2)), (2, .int (jI v1)), (0, .ref (ad 0 2)), (1, .ref (ad 9 a0.toNat))] := hl
    refine lv_aload hx hb dX3_conclude_38 (lv_at hl 0 rfl) ?_
    refine ycV (n := 0) (e_1_clear rv5 h) 1 (65 + v5.toNat) (r := (RX1, TX1, 4)) rfl yG_3_169 yD_1_clear X hw rfl (yGf_clause (toNat_lt rv5)) (Nat.le_trans (Nat.le_of_ble_eq_true rfl) hRf) (Nat.le_trans (Nat.le_of_ble_eq_true rfl) hRl) rfl hl.1 (Nat.le_of_ble_eq_true rfl) rfl dX3_conclude_40 (fun u H locs h hw => ?_)
    refine lv_iconst hx hb dX3_conclude_43 (v := jI 1) rfl ?_
    refine lv_istore hx hb dX3_conclude_44 hl (by decide) rfl (fun ls hl => ?_)
    have hl : lv_has ls 6 [(5, .int (jI 1)), (4, .ref (ad 4 v5.toNat)), (3, .int (jI v2)), (2, .int (jI v1)), (0, .ref (ad 0 2)), (1, .ref (ad 9 a0.toNat))] := hl
    refine lv_aload_n hx hb dX3_conclude_46 rfl (lv_at hl 4 rfl) ?_
    refine yg_3_37 X hw dX3_conclude_47 ?_
    refine lv_iload_n hx hb dX3_conclude_50 rfl (lv_at hl 3 rfl) ?_
    refine ycI (n := 1) (e_7_left rv1 h) 7 6 (r := (RX7, TX7, 9)) rfl yG_3_89 yD_7_left X hw rfl yGo_7 (Nat.le_trans (Nat.le_of_ble_eq_true rfl) hRf) (Nat.le_trans (Nat.le_of_ble_eq_true rfl) hRl) rfl hl.1 (Nat.le_of_ble_eq_true rfl) rfl dX3_conclude_51 (fun v7 u H locs rv7 h hw => ?_)
    refine lv_bipush hx hb dX3_conclude_54 (v := jI 38) rfl ?_
    refine k_icmp_ge hx hb rv7 (by decide) dX3_conclude_56 (tgt := 69) rfl h (fun h => ?_) (fun h => ?_)
    · refine lv_aload_n hx hb dX3_conclude_69 rfl (lv_at hl 4 rfl) ?_
      refine yg_3_37 X hw dX3_conclude_70 ?_
      refine lv_iload_n hx hb dX3_conclude_73 rfl (lv_at hl 3 rfl) ?_
      refine ycI (n := 1) (e_7_left rv1 h) 7 6 (r := (RX7, TX7, 9)) rfl yG_3_89 yD_7_left X hw rfl yGo_7 (Nat.le_trans (Nat.le_of_ble_eq_true rfl) hRf) (Nat.le_trans (Nat.le_of_ble_eq_true rfl) hRl) rfl hl.1 (Nat.le_of_ble_eq_true rfl) rfl dX3_conclude_74 (fun v8 u H locs rv8 h hw => ?_)
      refine lv_bipush hx hb dX3_conclude_77 (v := jI 43) rfl ?_
      refine k_icmp_ne hx hb rv8 (by decide) dX3_conclude_79 (tgt := 95) rfl h (fun h => ?_) (fun h => ?_)
      · refine lv_aload_n hx hb dX3_conclude_95 rfl (lv_at hl 4 rfl) ?_
        refine lv_aload hx hb dX3_conclude_96 (lv_at hl 1 rfl) ?_
        refine lv_iload_n hx hb dX3_conclude_98 rfl (lv_at hl 3 rfl) ?_
        refine lv_iload_n hx hb dX3_conclude_99 rfl (lv_at hl 2 rfl) ?_
        refine ycI (n := 3) (e_3_concludeOfParts rv5 rv1 rv2 h) 3 2 (r := (RX3, TX3, 11)) rfl yG_3_180 yD_3_concludeOfParts X hw rfl yGo_3 (Nat.le_trans (Nat.le_of_ble_eq_true rfl) hRf) (Nat.le_trans (Nat.le_of_ble_eq_true rfl) hRl) rfl hl.1 (Nat.le_of_ble_eq_true rfl) rfl dX3_conclude_100 (fun v9 u H locs rv9 h hw => ?_)
        refine lv_istore hx hb dX3_conclude_103 hl (by decide) rfl (fun ls hl => ?_)
        have hl : lv_has ls 6 [(5, .int (jI v9)), (4, .ref (ad 4 v5.toNat)), (3, .int (jI v2)), (2, .int (jI v1)), (0, .ref (ad 0 2)), (1, .ref (ad 9 a0.toNat))] := hl
        exact f_3_conclude_105 X hRf hRl hret rv1 rv2 rv5 rv9 hw (lv_sub hl [4, 3, 2, 1, 0] rfl) h
      · refine lv_aload_n hx hb dX3_conclude_82 rfl (lv_at hl 4 rfl) ?_
        refine lv_aload hx hb dX3_conclude_83 (lv_at hl 1 rfl) ?_
        refine lv_iload_n hx hb dX3_conclude_85 rfl (lv_at hl 3 rfl) ?_
        refine lv_iload_n hx hb dX3_conclude_86 rfl (lv_at hl 2 rfl) ?_
        refine ycI (n := 3) (e_3_isInduced rv5 rv1 rv2 h) 3 2 (r := (RX3, TX3, 11)) rfl yG_3_176 yD_3_isInduced X hw rfl yGo_3 (Nat.le_trans (Nat.le_of_ble_eq_true rfl) hRf) (Nat.le_trans (Nat.le_of_ble_eq_true rfl) hRl) rfl hl.1 (Nat.le_of_ble_eq_true rfl) rfl dX3_conclude_87 (fun v15 u H locs rv15 h hw => ?_)
        refine lv_istore hx hb dX3_conclude_90 hl (by decide) rfl (fun ls hl => ?_)
        have hl : lv_has ls 6 [(5, .int (jI v15)), (4, .ref (ad 4 v5.toNat)), (3, .int (jI v2)), (2, .int (jI v1)), (0, .ref (ad 0 2)), (1, .ref (ad 9 a0.toNat))] := hl
        refine lv_goto hx hb dX3_conclude_92 (tgt := 105) rfl ?_
        exact f_3_conclude_105 X hRf hRl hret rv1 rv2 rv5 rv15 hw (lv_sub hl [4, 3, 2, 1, 0] rfl) h
    · refine lv_aload_n hx hb dX3_conclude_59 rfl (lv_at hl 4 rfl) ?_
      refine lv_aload hx hb dX3_conclude_60 (lv_at hl 1 rfl) ?_
      refine lv_iload_n hx hb dX3_conclude_62 rfl (lv_at hl 3 rfl) ?_
      refine ycV (n := 2) (e_3_concludeAlone rv5 rv1 h) 3 2 (r := (RX3, TX3, 11)) rfl yG_3_172 yD_3_concludeAlone X hw rfl yGo_3 (Nat.le_trans (Nat.le_of_ble_eq_true rfl) hRf) (Nat.le_trans (Nat.le_of_ble_eq_true rfl) hRl) rfl hl.1 (Nat.le_of_ble_eq_true rfl) rfl dX3_conclude_63 (fun u H locs h hw => ?_)
      refine lv_goto hx hb dX3_conclude_66 (tgt := 105) rfl ?_
      exact f_3_conclude_105 X hRf hRl hret rv1 rv2 rv5 (by decide) hw (lv_sub hl [4, 3, 2, 1, 0] rfl) h
  · refine lv_aload_n hx hb dX3_conclude_18 rfl (lv_at hl 2 rfl) ?_
    refine yg_3_37 X hw dX3_conclude_19 ?_
    refine lv_iconst hx hb dX3_conclude_22 (v := jI 4) rfl ?_
    refine ycV (n := 1) (e_7_blame (by decide) h) 7 6 (r := (RX7, TX7, 9)) rfl yG_3_75 yD_7_blame X hw rfl yGo_7 (Nat.le_trans (Nat.le_of_ble_eq_true rfl) hRf) (Nat.le_trans (Nat.le_of_ble_eq_true rfl) hRl) rfl hl.1 (Nat.le_of_ble_eq_true rfl) rfl dX3_conclude_23 (fun u H locs h hw => ?_)
    exact hret _ _ _ _ _ h hw dX3_conclude_26

end
theorem e_3_conclude {l : Launch} {a0 : Int} (ra0 : (0 ≤ a0 ∧ a0 < 40)) {Q : iST → Prop} {u : iST} (h : v_3_conclude a0 Q u) : yMV l yX3_conclude (.code yX3_conclude cX3_conclude 6 none :: wsN) { frames := 5, cells := 0, slots := 0, locals := 131 } (fun ad => [.ref (ad 0 2), .ref (ad 9 a0.toNat)]) Q u := yMV_of (own := RX3) rfl (by decide +kernel) (fun _ => Nat.le_of_ble_eq_true rfl) (fun X hRf hRl hret hw hl => f_3_conclude_s X hRf hRl hret ra0 hw hl h)
