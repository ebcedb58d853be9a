/-! ProofHouse$Prover.stands -/
theorem dX4_stands_0 : decode cX4_stands 0 = .ok (.aload_n 1, 1) := by decide +kernel
theorem dX4_stands_1 : decode cX4_stands 1 = .ok (.iload_n 2, 1) := by decide +kernel
theorem dX4_stands_2 : decode cX4_stands 2 = .ok (.aload_n 0, 1) := by decide +kernel
theorem dX4_stands_3 : decode cX4_stands 3 = .ok (.getfield 42, 3) := by decide +kernel
theorem dX4_stands_6 : decode cX4_stands 6 = .ok (.aload_n 1, 1) := by decide +kernel
theorem dX4_stands_7 : decode cX4_stands 7 = .ok (.getfield 87, 3) := by decide +kernel
theorem dX4_stands_10 : decode cX4_stands 10 = .ok (.iload_n 2, 1) := by decide +kernel
theorem dX4_stands_11 : decode cX4_stands 11 = .ok (.iaload, 1) := by decide +kernel
theorem dX4_stands_12 : decode cX4_stands 12 = .ok (.invokevirtual 145, 3) := by decide +kernel
theorem dX4_stands_15 : decode cX4_stands 15 = .ok (.invokevirtual 148, 3) := by decide +kernel
theorem dX4_stands_18 : decode cX4_stands 18 = .ok (.aload_n 1, 1) := by decide +kernel
theorem dX4_stands_19 : decode cX4_stands 19 = .ok (.iload_n 3, 1) := by decide +kernel
theorem dX4_stands_20 : decode cX4_stands 20 = .ok (.invokevirtual 152, 3) := by decide +kernel
theorem dX4_stands_23 : decode cX4_stands 23 = .ok (.istore 4, 2) := by decide +kernel
theorem dX4_stands_25 : decode cX4_stands 25 = .ok (.iload_n 3, 1) := by decide +kernel
theorem dX4_stands_26 : decode cX4_stands 26 = .ok (.ifCond .eq 15, 3) := by decide +kernel
theorem dX4_stands_29 : decode cX4_stands 29 = .ok (.iload 4, 2) := by decide +kernel
theorem dX4_stands_31 : decode cX4_stands 31 = .ok (.iconst (-1), 1) := by decide +kernel
theorem dX4_stands_32 : decode cX4_stands 32 = .ok (.if_icmp .eq 11, 3) := by decide +kernel
theorem dX4_stands_35 : decode cX4_stands 35 = .ok (.iload 4, 2) := by decide +kernel
theorem dX4_stands_37 : decode cX4_stands 37 = .ok (.iload_n 2, 1) := by decide +kernel
theorem dX4_stands_38 : decode cX4_stands 38 = .ok (.if_icmp .ge 5, 3) := by decide +kernel
theorem dX4_stands_41 : decode cX4_stands 41 = .ok (.iconst 0, 1) := by decide +kernel
theorem dX4_stands_42 : decode cX4_stands 42 = .ok (.ireturn, 1) := by decide +kernel
theorem dX4_stands_43 : decode cX4_stands 43 = .ok (.iload 4, 2) := by decide +kernel
theorem dX4_stands_45 : decode cX4_stands 45 = .ok (.iconst (-1), 1) := by decide +kernel
theorem dX4_stands_46 : decode cX4_stands 46 = .ok (.if_icmp .eq 17, 3) := by decide +kernel
theorem dX4_stands_49 : decode cX4_stands 49 = .ok (.aload_n 1, 1) := by decide +kernel
theorem dX4_stands_50 : decode cX4_stands 50 = .ok (.iload 4, 2) := by decide +kernel
theorem dX4_stands_52 : decode cX4_stands 52 = .ok (.aload_n 0, 1) := by decide +kernel
theorem dX4_stands_53 : decode cX4_stands 53 = .ok (.getfield 42, 3) := by decide +kernel
theorem dX4_stands_56 : decode cX4_stands 56 = .ok (.iload_n 3, 1) := by decide +kernel
theorem dX4_stands_57 : decode cX4_stands 57 = .ok (.invokevirtual 145, 3) := by decide +kernel
theorem dX4_stands_60 : decode cX4_stands 60 = .ok (.invokevirtual 148, 3) := by decide +kernel
theorem dX4_stands_63 : decode cX4_stands 63 = .ok (.aload_n 1, 1) := by decide +kernel
theorem dX4_stands_64 : decode cX4_stands 64 = .ok (.iload_n 2, 1) := by decide +kernel
theorem dX4_stands_65 : decode cX4_stands 65 = .ok (.iload_n 3, 1) := by decide +kernel
theorem dX4_stands_66 : decode cX4_stands 66 = .ok (.aload_n 0, 1) := by decide +kernel
theorem dX4_stands_67 : decode cX4_stands 67 = .ok (.getfield 42, 3) := by decide +kernel
theorem dX4_stands_70 : decode cX4_stands 70 = .ok (.iload_n 3, 1) := by decide +kernel
theorem dX4_stands_71 : decode cX4_stands 71 = .ok (.invokevirtual 145, 3) := by decide +kernel
theorem dX4_stands_74 : decode cX4_stands 74 = .ok (.invokevirtual 155, 3) := by decide +kernel
theorem dX4_stands_77 : decode cX4_stands 77 = .ok (.pop, 1) := by decide +kernel
theorem dX4_stands_78 : decode cX4_stands 78 = .ok (.iconst 1, 1) := by decide +kernel
theorem dX4_stands_79 : decode cX4_stands 79 = .ok (.ireturn, 1) := by decide +kernel

section
variable {p : Program} {l : Launch} {e : Env} {R : Room} {s : State} {m : MethodId} {args : Array Value} {below : List Frame} {meth : Method} {c : Code} {H : Heap} {locs : List Loc} {Qf : State → Prop}
variable {ls : Array Slot} {D : va_G} {ca : Nat → ClassId} {A : Nat → Prop} {ad : Nat → Nat → Nat} {u : iST}
def v_4_stands_63 (Q : Int → iST → Prop) (x1 : Int) (x2 : Int) (x3 : Int) (u : iST) : Prop :=
  v_7_sizeOf x3 (fun v5 u => 
  v_1_insert x1 x2 x3 v5 (fun v6 u => 
  zt 1 (Q 1 u)) u) u
set_option maxRecDepth 20000 in
set_option maxHeartbeats 4000000 in
theorem f_4_stands_63 (X : yX RX4 p m c cX4_stands 5 s args D ca ad A) (hRf : 1 ≤ R.frames) (hRl : 24 ≤ R.locals) {Q : Int → iST → Prop} (hret : ∀ (v : Int) (u : iST) (H : Heap) (locs : List Loc) (ls : Array Slot) (pc : Nat), bz v → Q v u → yW D ca A ad s H locs u → decode cX4_stands pc = .ok (.ireturn, 1) → W p l e R s m args below meth c H locs 0 0 Qf (F0 m pc ls [.int (jI v)])) {x1 x2 x3 : Int} (rx1 : (0 ≤ x1 ∧ x1 < 408)) (rx2 : inR x2) (rx3 : inR x3) (hw : yW D ca A ad s H locs u) (hl : lv_has ls 5 [(0, .ref (ad 0 3)), (1, .ref (ad 4 x1.toNat)), (2, .int (jI x2)), (3, .int (jI x3))]) (h : v_4_stands_63 Q x1 x2 x3 u) : W p l e R s m args below meth c H locs 0 0 Qf (F0 m 63 ls []) := by
  have hx := X.1.1
  have hb := X.1.2.1
  unfold v_4_stands_63 at h
  refine lv_aload_n hx hb dX4_stands_63 rfl (lv_at hl 1 rfl) ?_
  refine lv_iload_n hx hb dX4_stands_64 rfl (lv_at hl 2 rfl) ?_
  refine lv_iload_n hx hb dX4_stands_65 rfl (lv_at hl 3 rfl) ?_
  refine lv_aload_n hx hb dX4_stands_66 rfl (lv_at hl 0 rfl) ?_
  refine yg_4_42 X hw dX4_stands_67 ?_
  refine lv_iload_n hx hb dX4_stands_70 rfl (lv_at hl 3 rfl) ?_
  refine ycI (n := 1) (e_7_sizeOf rx3 h) 7 6 (r := (RX7, TX7, 9)) rfl yG_4_145 yD_7_sizeOf X hw rfl yGo_7 (Nat.le_trans (Nat.le_of_ble_eq_true rfl) hRf) (Nat.le_trans (Nat.le_of_ble_eq_true rfl) hRl) rfl hl.1 (Nat.le_of_ble_eq_true rfl) rfl dX4_stands_71 (fun v5 u H locs rv5 h hw => ?_)
  refine ycI (n := 3) (e_1_insert rx1 rx2 rx3 rv5 h) 1 (65 + x1.toNat) (r := (RX1, TX1, 4)) rfl yG_4_155 yD_1_insert X hw rfl (yGf_clause (toNat_lt rx1)) (Nat.le_trans (Nat.le_of_ble_eq_true rfl) hRf) (Nat.le_trans (Nat.le_of_ble_eq_true rfl) hRl) rfl hl.1 (Nat.le_of_ble_eq_true rfl) rfl dX4_stands_74 (fun v6 u H locs rv6 h hw => ?_)
  refine lv_pop hx hb dX4_stands_77 rfl ?_
  refine lv_iconst hx hb dX4_stands_78 (v := jI 1) rfl ?_
  exact hret _ _ _ _ _ _ h.1 h.2 hw dX4_stands_79

def v_4_stands_43 (Q : Int → iST → Prop) (x1 : Int) (x2 : Int) (x3 : Int) (x4 : Int) (u : iST) : Prop :=
  br (x4 = (-1)) (
    v_4_stands_63 Q x1 x2 x3 u) (
    v_7_sizeOf x3 (fun v7 u => 
    v_1_remove x1 x4 v7 (fun u => 
    v_4_stands_63 Q x1 x2 x3 u) u) u)
set_option maxRecDepth 20000 in
set_option maxHeartbeats 4000000 in
theorem f_4_stands_43 (X : yX RX4 p m c cX4_stands 5 s args D ca ad A) (hRf : 1 ≤ R.frames) (hRl : 24 ≤ R.locals) {Q : Int → iST → Prop} (hret : ∀ (v : Int) (u : iST) (H : Heap) (locs : List Loc) (ls : Array Slot) (pc : Nat), bz v → Q v u → yW D ca A ad s H locs u → decode cX4_stands pc = .ok (.ireturn, 1) → W p l e R s m args below meth c H locs 0 0 Qf (F0 m pc ls [.int (jI v)])) {x1 x2 x3 x4 : Int} (rx1 : (0 ≤ x1 ∧ x1 < 408)) (rx2 : inR x2) (rx3 : inR x3) (rx4 : inR x4) (hw : yW D ca A ad s H locs u) (hl : lv_has ls 5 [(0, .ref (ad 0 3)), (1, .ref (ad 4 x1.toNat)), (2, .int (jI x2)), (3, .int (jI x3)), (4, .int (jI x4))]) (h : v_4_stands_43 Q x1 x2 x3 x4 u) : W p l e R s m args below meth c H locs 0 0 Qf (F0 m 43 ls []) := by
  have hx := X.1.1
  have hb := X.1.2.1
  unfold v_4_stands_43 at h
  refine lv_iload hx hb dX4_stands_43 (lv_at hl 4 rfl) ?_
  refine lv_iconst hx hb dX4_stands_45 (v := jI (-1)) rfl ?_
  refine k_icmp_eq hx hb rx4 (by decide) dX4_stands_46 (tgt := 63) rfl h (fun h => ?_) (fun h => ?_)
  · exact f_4_stands_63 X hRf hRl hret rx1 rx2 rx3 hw (lv_sub hl [0, 1, 2, 3] rfl) h
  · refine lv_aload_n hx hb dX4_stands_49 rfl (lv_at hl 1 rfl) ?_
    refine lv_iload hx hb dX4_stands_50 (lv_at hl 4 rfl) ?_
    refine lv_aload_n hx hb dX4_stands_52 rfl (lv_at hl 0 rfl) ?_
    refine yg_4_42 X hw dX4_stands_53 ?_
    refine lv_iload_n hx hb dX4_stands_56 rfl (lv_at hl 3 rfl) ?_
    refine ycI (n := 1) (e_7_sizeOf rx3 h) 7 6 (r := (RX7, TX7, 9)) rfl yG_4_145 yD_7_sizeOf X hw rfl yGo_7 (Nat.le_trans (Nat.le_of_ble_eq_true rfl) hRf) (Nat.le_trans (Nat.le_of_ble_eq_true rfl) hRl) rfl hl.1 (Nat.le_of_ble_eq_true rfl) rfl dX4_stands_57 (fun v7 u H locs rv7 h hw => ?_)
    refine ycV (n := 2) (e_1_remove rx1 rx4 rv7 h) 1 (65 + x1.toNat) (r := (RX1, TX1, 4)) rfl yG_4_148 yD_1_remove X hw rfl (yGf_clause (toNat_lt rx1)) (Nat.le_trans (Nat.le_of_ble_eq_true rfl) hRf) (Nat.le_trans (Nat.le_of_ble_eq_true rfl) hRl) rfl hl.1 (Nat.le_of_ble_eq_true rfl) rfl dX4_stands_60 (fun u H locs h hw => ?_)
    exact f_4_stands_63 X hRf hRl hret rx1 rx2 rx3 hw (lv_sub hl [0, 1, 2, 3] rfl) h

def v_4_stands (a0 : Int) (a1 : Int) (a2 : Int) (Q : Int → iST → Prop) (u : iST) : Prop :=
  bd a1 30 (rd (u.2.1 49 (30 * a0 + a1)) (fun v1 => 
  v_7_sizeOf v1 (fun v2 u => 
  v_1_remove a0 a1 v2 (fun u => 
  v_1_placeOf a0 a2 (fun v4 u => 
  br (a2 = 0) (
    zt 0 (Q 0 u)) (
    br (v4 = (-1)) (
      v_4_stands_43 Q a0 a1 a2 v4 u) (
      br (a1 ≤ v4) (
        v_4_stands_43 Q a0 a1 a2 v4 u) (
        zt 0 (Q 0 u))))) u) u) u))
set_option maxRecDepth 20000 in
set_option maxHeartbeats 4000000 in
theorem f_4_stands_s (X : yX RX4 p m c cX4_stands 5 s args D ca ad A) (hRf : 1 ≤ R.frames) (hRl : 24 ≤ R.locals) {Q : Int → iST → Prop} (hret : ∀ (v : Int) (u : iST) (H : Heap) (locs : List Loc) (ls : Array Slot) (pc : Nat), bz v → Q v u → yW D ca A ad s H locs u → decode cX4_stands pc = .ok (.ireturn, 1) → W p l e R s m args below meth c H locs 0 0 Qf (F0 m pc ls [.int (jI v)])) {a0 a1 a2 : Int} (ra0 : (0 ≤ a0 ∧ a0 < 408)) (ra1 : inR a1) (ra2 : inR a2) (hw : yW D ca A ad s H locs u) (hl : lv_has ls 5 [(0, .ref (ad 0 3)), (1, .ref (ad 4 a0.toNat)), (2, .int (jI a1)), (3, .int (jI a2))]) (h : v_4_stands a0 a1 a2 Q u) : W p l e R s m args below meth c H locs 0 0 Qf (F0 m 0 ls []) := by
  have hx := X.1.1
  have hb := X.1.2.1
  unfold v_4_stands at h
  refine lv_aload_n hx hb dX4_stands_0 rfl (lv_at hl 1 rfl) ?_
  refine lv_iload_n hx hb dX4_stands_1 rfl (lv_at hl 2 rfl) ?_
  refine lv_aload_n hx hb dX4_stands_2 rfl (lv_at hl 0 rfl) ?_
  refine yg_4_42 X hw dX4_stands_3 ?_
  refine lv_aload_n hx hb dX4_stands_6 rfl (lv_at hl 1 rfl) ?_
  refine yg_4_87 X hw dX4_stands_7 ra0 ?_
  refine lv_iload_n hx hb dX4_stands_10 rfl (lv_at hl 2 rfl) ?_
  refine yfl_lits X hw ra0 ra1 dX4_stands_11 h (fun v1 rv1 h => ?_)
  refine ycI (n := 1) (e_7_sizeOf rv1 h) 7 6 (r := (RX7, TX7, 9)) rfl yG_4_145 yD_7_sizeOf X hw rfl yGo_7 (Nat.le_trans (Nat.le_of_ble_eq_true rfl) hRf) (Nat.le_trans (Nat.le_of_ble_eq_true rfl) hRl) rfl hl.1 (Nat.le_of_ble_eq_true rfl) rfl dX4_stands_12 (fun v2 u H locs rv2 h hw => ?_)
  refine ycV (n := 2) (e_1_remove ra0 ra1 rv2 h) 1 (65 + a0.toNat) (r := (RX1, TX1, 4)) rfl yG_4_148 yD_1_remove X hw rfl (yGf_clause (toNat_lt ra0)) (Nat.le_trans (Nat.le_of_ble_eq_true rfl) hRf) (Nat.le_trans (Nat.le_of_ble_eq_true rfl) hRl) rfl hl.1 (Nat.le_of_ble_eq_true rfl) rfl dX4_stands_15 (fun u H locs h hw => ?_)
  refine lv_aload_n hx hb dX4_stands_18 rfl (lv_at hl 1 rfl) ?_
  refine lv_iload_n hx hb dX4_stands_19 rfl (lv_at hl 3 rfl) ?_
  refine ycI (n := 1) (e_1_placeOf ra0 ra2 h) 1 (65 + a0.toNat) (r := (RX1, TX1, 4)) rfl yG_4_152 yD_1_placeOf X hw rfl (yGf_clause (toNat_lt ra0)) (Nat.le_trans (Nat.le_of_ble_eq_true rfl) hRf) (Nat.le_trans (Nat.le_of_ble_eq_true rfl) hRl) rfl hl.1 (Nat.le_of_ble_eq_true rfl) rfl dX4_stands_20 (fun v4 u H locs rv4 h hw => ?_)
  refine lv_istore hx hb dX4_stands_23 hl (by decide) rfl (fun ls hl => ?_)
  have hl : lv_has ls 5 [(4, .int (jI v4)), (0, .ref (ad 0 3)), (1, .ref (ad 4 a0.toNat)), (2, .int (jI a1)), (3, .int (jI a2))] := hl
  refine lv_iload_n hx hb dX4_stands_25 rfl (lv_at hl 4 rfl) ?_
  refine k_if_eq hx hb ra2 dX4_stands_26 (tgt := 41) rfl h (fun h => ?_) (fun h => ?_)
  · refine lv_iconst hx hb dX4_stands_41 (v := jI 0) rfl ?_
    exact hret _ _ _ _ _ _ h.1 h.2 hw dX4_stands_42
  · refine lv_iload hx hb dX4_stands_29 (lv_at hl 0 rfl) ?_
    refine lv_iconst hx hb dX4_stands_31 (v := jI (-1)) rfl ?_
    refine k_icmp_eq hx hb rv4 (by decide) dX4_stands_32 (tgt := 43) rfl h (fun h => ?_) (fun h => ?_)
    · exact f_4_stands_43 X hRf hRl hret ra0 ra1 ra2 rv4 hw (lv_sub hl [1, 2, 3, 4, 0] rfl) h
    · refine lv_iload hx hb dX4_stands_35 (lv_at hl 0 rfl) ?_
      refine lv_iload_n hx hb dX4_stands_37 rfl (lv_at hl 3 rfl) ?_
      refine k_icmp_ge hx hb rv4 ra1 dX4_stands_38 (tgt := 43) rfl h (fun h => ?_) (fun h => ?_)
      · exact f_4_stands_43 X hRf hRl hret ra0 ra1 ra2 rv4 hw (lv_sub hl [1, 2, 3, 4, 0] rfl) h
      · refine lv_iconst hx hb dX4_stands_41 (v := jI 0) rfl ?_
        exact hret _ _ _ _ _ _ h.1 h.2 hw dX4_stands_42

end
theorem e_4_stands {l : Launch} {a0 : Int} {a1 : Int} {a2 : Int} (ra0 : (0 ≤ a0 ∧ a0 < 408)) (ra1 : inR a1) (ra2 : inR a2) {Q : Int → iST → Prop} {u : iST} (h : v_4_stands a0 a1 a2 Q u) : yMI l yX4_stands (.code yX4_stands cX4_stands 5 (some .boolean) :: wsN) { frames := 1, cells := 0, slots := 0, locals := 24 } (fun ad => [.ref (ad 0 3), .ref (ad 4 a0.toNat), .int (jI a1), .int (jI a2)]) Q u := yMZ_of (own := RX4) rfl (by decide +kernel) (fun _ => Nat.le_of_ble_eq_true rfl) (fun X hRf hRl hret hw hl => f_4_stands_s X hRf hRl hret ra0 ra1 ra2 hw hl h)

/-! ProofHouse$Prover.makeRound -/
theorem dX4_makeRound_0 : decode cX4_makeRound 0 = .ok (.iconst 0, 1) := by decide +kernel
theorem dX4_makeRound_1 : decode cX4_makeRound 1 = .ok (.istore_n 2, 1) := by decide +kernel
theorem dX4_makeRound_2 : decode cX4_makeRound 2 = .ok (.aload_n 1, 1) := by decide +kernel
theorem dX4_makeRound_3 : decode cX4_makeRound 3 = .ok (.dup, 1) := by decide +kernel
theorem dX4_makeRound_4 : decode cX4_makeRound 4 = .ok (.getfield 75, 3) := by decide +kernel
theorem dX4_makeRound_7 : decode cX4_makeRound 7 = .ok (.iconst 1, 1) := by decide +kernel
theorem dX4_makeRound_8 : decode cX4_makeRound 8 = .ok (.iadd, 1) := by decide +kernel
theorem dX4_makeRound_9 : decode cX4_makeRound 9 = .ok (.putfield 75, 3) := by decide +kernel
theorem dX4_makeRound_12 : decode cX4_makeRound 12 = .ok (.iconst 0, 1) := by decide +kernel
theorem dX4_makeRound_13 : decode cX4_makeRound 13 = .ok (.istore_n 3, 1) := by decide +kernel
theorem dX4_makeRound_14 : decode cX4_makeRound 14 = .ok (.iconst 0, 1) := by decide +kernel
theorem dX4_makeRound_15 : decode cX4_makeRound 15 = .ok (.istore 4, 2) := by decide +kernel
theorem dX4_makeRound_17 : decode cX4_makeRound 17 = .ok (.iload 4, 2) := by decide +kernel
theorem dX4_makeRound_19 : decode cX4_makeRound 19 = .ok (.ldc 70, 2) := by decide +kernel
theorem dX4_makeRound_21 : decode cX4_makeRound 21 = .ok (.if_icmp .ge 229, 3) := by decide +kernel
theorem dX4_makeRound_24 : decode cX4_makeRound 24 = .ok (.iload_n 3, 1) := by decide +kernel
theorem dX4_makeRound_25 : decode cX4_makeRound 25 = .ok (.aload_n 1, 1) := by decide +kernel
theorem dX4_makeRound_26 : decode cX4_makeRound 26 = .ok (.getfield 84, 3) := by decide +kernel
theorem dX4_makeRound_29 : decode cX4_makeRound 29 = .ok (.if_icmp .ge 221, 3) := by decide +kernel
theorem dX4_makeRound_32 : decode cX4_makeRound 32 = .ok (.aload_n 1, 1) := by decide +kernel
theorem dX4_makeRound_33 : decode cX4_makeRound 33 = .ok (.getfield 87, 3) := by decide +kernel
theorem dX4_makeRound_36 : decode cX4_makeRound 36 = .ok (.iload_n 3, 1) := by decide +kernel
theorem dX4_makeRound_37 : decode cX4_makeRound 37 = .ok (.iaload, 1) := by decide +kernel
theorem dX4_makeRound_38 : decode cX4_makeRound 38 = .ok (.istore 5, 2) := by decide +kernel
theorem dX4_makeRound_40 : decode cX4_makeRound 40 = .ok (.aload_n 0, 1) := by decide +kernel
theorem dX4_makeRound_41 : decode cX4_makeRound 41 = .ok (.aload_n 1, 1) := by decide +kernel
theorem dX4_makeRound_42 : decode cX4_makeRound 42 = .ok (.iload_n 3, 1) := by decide +kernel
theorem dX4_makeRound_43 : decode cX4_makeRound 43 = .ok (.invokevirtual 101, 3) := by decide +kernel
theorem dX4_makeRound_46 : decode cX4_makeRound 46 = .ok (.istore 6, 2) := by decide +kernel
theorem dX4_makeRound_48 : decode cX4_makeRound 48 = .ok (.iconst (-1), 1) := by decide +kernel
theorem dX4_makeRound_49 : decode cX4_makeRound 49 = .ok (.istore 7, 2) := by decide +kernel
theorem dX4_makeRound_51 : decode cX4_makeRound 51 = .ok (.aload_n 0, 1) := by decide +kernel
theorem dX4_makeRound_52 : decode cX4_makeRound 52 = .ok (.getfield 42, 3) := by decide +kernel
theorem dX4_makeRound_55 : decode cX4_makeRound 55 = .ok (.getfield 63, 3) := by decide +kernel
theorem dX4_makeRound_58 : decode cX4_makeRound 58 = .ok (.ifCond .ne 39, 3) := by decide +kernel
theorem dX4_makeRound_61 : decode cX4_makeRound 61 = .ok (.aload_n 0, 1) := by decide +kernel
theorem dX4_makeRound_62 : decode cX4_makeRound 62 = .ok (.getfield 38, 3) := by decide +kernel
theorem dX4_makeRound_65 : decode cX4_makeRound 65 = .ok (.ifCond .eq 18, 3) := by decide +kernel
theorem dX4_makeRound_68 : decode cX4_makeRound 68 = .ok (.aload_n 0, 1) := by decide +kernel
theorem dX4_makeRound_69 : decode cX4_makeRound 69 = .ok (.getfield 50, 3) := by decide +kernel
theorem dX4_makeRound_72 : decode cX4_makeRound 72 = .ok (.iload 5, 2) := by decide +kernel
theorem dX4_makeRound_74 : decode cX4_makeRound 74 = .ok (.iconst 1, 1) := by decide +kernel
theorem dX4_makeRound_75 : decode cX4_makeRound 75 = .ok (.iload 6, 2) := by decide +kernel
theorem dX4_makeRound_77 : decode cX4_makeRound 77 = .ok (.invokevirtual 105, 3) := by decide +kernel
theorem dX4_makeRound_80 : decode cX4_makeRound 80 = .ok (.goto 15, 3) := by decide +kernel
theorem dX4_makeRound_83 : decode cX4_makeRound 83 = .ok (.aload_n 0, 1) := by decide +kernel
theorem dX4_makeRound_84 : decode cX4_makeRound 84 = .ok (.getfield 50, 3) := by decide +kernel
theorem dX4_makeRound_87 : decode cX4_makeRound 87 = .ok (.iload 5, 2) := by decide +kernel
theorem dX4_makeRound_89 : decode cX4_makeRound 89 = .ok (.iconst 1, 1) := by decide +kernel
theorem dX4_makeRound_90 : decode cX4_makeRound 90 = .ok (.iload 6, 2) := by decide +kernel
theorem dX4_makeRound_92 : decode cX4_makeRound 92 = .ok (.invokevirtual 111, 3) := by decide +kernel
theorem dX4_makeRound_95 : decode cX4_makeRound 95 = .ok (.istore 7, 2) := by decide +kernel
theorem dX4_makeRound_97 : decode cX4_makeRound 97 = .ok (.iload 7, 2) := by decide +kernel
theorem dX4_makeRound_99 : decode cX4_makeRound 99 = .ok (.iconst (-1), 1) := by decide +kernel
theorem dX4_makeRound_100 : decode cX4_makeRound 100 = .ok (.if_icmp .ne 12, 3) := by decide +kernel
theorem dX4_makeRound_103 : decode cX4_makeRound 103 = .ok (.aload_n 0, 1) := by decide +kernel
theorem dX4_makeRound_104 : decode cX4_makeRound 104 = .ok (.getfield 42, 3) := by decide +kernel
theorem dX4_makeRound_107 : decode cX4_makeRound 107 = .ok (.iconst 4, 1) := by decide +kernel
theorem dX4_makeRound_108 : decode cX4_makeRound 108 = .ok (.invokevirtual 54, 3) := by decide +kernel
theorem dX4_makeRound_111 : decode cX4_makeRound 111 = .ok (.return_, 1) := by decide +kernel
theorem dX4_makeRound_112 : decode cX4_makeRound 112 = .ok (.iload 7, 2) := by decide +kernel
theorem dX4_makeRound_114 : decode cX4_makeRound 114 = .ok (.iconst 1, 1) := by decide +kernel
theorem dX4_makeRound_115 : decode cX4_makeRound 115 = .ok (.if_icmp .ne 14, 3) := by decide +kernel
theorem dX4_makeRound_118 : decode cX4_makeRound 118 = .ok (.aload_n 0, 1) := by decide +kernel
theorem dX4_makeRound_119 : decode cX4_makeRound 119 = .ok (.dup, 1) := by decide +kernel
theorem dX4_makeRound_120 : decode cX4_makeRound 120 = .ok (.getfield 24, 3) := by decide +kernel
theorem dX4_makeRound_123 : decode cX4_makeRound 123 = .ok (.iconst 1, 1) := by decide +kernel
theorem dX4_makeRound_124 : decode cX4_makeRound 124 = .ok (.isub, 1) := by decide +kernel
theorem dX4_makeRound_125 : decode cX4_makeRound 125 = .ok (.putfield 24, 3) := by decide +kernel
theorem dX4_makeRound_128 : decode cX4_makeRound 128 = .ok (.return_, 1) := by decide +kernel
theorem dX4_makeRound_129 : decode cX4_makeRound 129 = .ok (.aload_n 0, 1) := by decide +kernel
theorem dX4_makeRound_130 : decode cX4_makeRound 130 = .ok (.getfield 42, 3) := by decide +kernel
theorem dX4_makeRound_133 : decode cX4_makeRound 133 = .ok (.iload 7, 2) := by decide +kernel
theorem dX4_makeRound_135 : decode cX4_makeRound 135 = .ok (.iconst 3, 1) := by decide +kernel
theorem dX4_makeRound_136 : decode cX4_makeRound 136 = .ok (.invokevirtual 114, 3) := by decide +kernel
theorem dX4_makeRound_139 : decode cX4_makeRound 139 = .ok (.ifCond .ne 38, 3) := by decide +kernel
theorem dX4_makeRound_142 : decode cX4_makeRound 142 = .ok (.aload_n 0, 1) := by decide +kernel
theorem dX4_makeRound_143 : decode cX4_makeRound 143 = .ok (.getfield 42, 3) := by decide +kernel
theorem dX4_makeRound_146 : decode cX4_makeRound 146 = .ok (.iload 7, 2) := by decide +kernel
theorem dX4_makeRound_148 : decode cX4_makeRound 148 = .ok (.bipush 16, 2) := by decide +kernel
theorem dX4_makeRound_150 : decode cX4_makeRound 150 = .ok (.invokevirtual 114, 3) := by decide +kernel
theorem dX4_makeRound_153 : decode cX4_makeRound 153 = .ok (.ifCond .eq 33, 3) := by decide +kernel
theorem dX4_makeRound_156 : decode cX4_makeRound 156 = .ok (.aload_n 0, 1) := by decide +kernel
theorem dX4_makeRound_157 : decode cX4_makeRound 157 = .ok (.getfield 42, 3) := by decide +kernel
theorem dX4_makeRound_160 : decode cX4_makeRound 160 = .ok (.aload_n 0, 1) := by decide +kernel
theorem dX4_makeRound_161 : decode cX4_makeRound 161 = .ok (.getfield 42, 3) := by decide +kernel
theorem dX4_makeRound_164 : decode cX4_makeRound 164 = .ok (.iload 7, 2) := by decide +kernel
theorem dX4_makeRound_166 : decode cX4_makeRound 166 = .ok (.iconst 1, 1) := by decide +kernel
theorem dX4_makeRound_167 : decode cX4_makeRound 167 = .ok (.invokevirtual 117, 3) := by decide +kernel
theorem dX4_makeRound_170 : decode cX4_makeRound 170 = .ok (.iconst 3, 1) := by decide +kernel
theorem dX4_makeRound_171 : decode cX4_makeRound 171 = .ok (.invokevirtual 114, 3) := by decide +kernel
theorem dX4_makeRound_174 : decode cX4_makeRound 174 = .ok (.ifCond .eq 12, 3) := by decide +kernel
theorem dX4_makeRound_177 : decode cX4_makeRound 177 = .ok (.aload_n 0, 1) := by decide +kernel
theorem dX4_makeRound_178 : decode cX4_makeRound 178 = .ok (.aload_n 1, 1) := by decide +kernel
theorem dX4_makeRound_179 : decode cX4_makeRound 179 = .ok (.iload_n 3, 1) := by decide +kernel
theorem dX4_makeRound_180 : decode cX4_makeRound 180 = .ok (.iload 7, 2) := by decide +kernel
theorem dX4_makeRound_182 : decode cX4_makeRound 182 = .ok (.invokevirtual 121, 3) := by decide +kernel
theorem dX4_makeRound_185 : decode cX4_makeRound 185 = .ok (.return_, 1) := by decide +kernel
theorem dX4_makeRound_186 : decode cX4_makeRound 186 = .ok (.iload 7, 2) := by decide +kernel
theorem dX4_makeRound_188 : decode cX4_makeRound 188 = .ok (.iload 5, 2) := by decide +kernel
theorem dX4_makeRound_190 : decode cX4_makeRound 190 = .ok (.if_icmp .ne 12, 3) := by decide +kernel
theorem dX4_makeRound_193 : decode cX4_makeRound 193 = .ok (.iload 7, 2) := by decide +kernel
theorem dX4_makeRound_195 : decode cX4_makeRound 195 = .ok (.ifCond .eq 7, 3) := by decide +kernel
theorem dX4_makeRound_198 : decode cX4_makeRound 198 = .ok (.iconst 1, 1) := by decide +kernel
theorem dX4_makeRound_199 : decode cX4_makeRound 199 = .ok (.goto 4, 3) := by decide +kernel
theorem dX4_makeRound_202 : decode cX4_makeRound 202 = .ok (.iconst 0, 1) := by decide +kernel
theorem dX4_makeRound_203 : decode cX4_makeRound 203 = .ok (.istore 8, 2) := by decide +kernel
theorem dX4_makeRound_205 : decode cX4_makeRound 205 = .ok (.iload_n 2, 1) := by decide +kernel
theorem dX4_makeRound_206 : decode cX4_makeRound 206 = .ok (.ifCond .ne 8, 3) := by decide +kernel
theorem dX4_makeRound_209 : decode cX4_makeRound 209 = .ok (.iload 8, 2) := by decide +kernel
theorem dX4_makeRound_211 : decode cX4_makeRound 211 = .ok (.ifCond .ne 7, 3) := by decide +kernel
theorem dX4_makeRound_214 : decode cX4_makeRound 214 = .ok (.iconst 1, 1) := by decide +kernel
theorem dX4_makeRound_215 : decode cX4_makeRound 215 = .ok (.goto 4, 3) := by decide +kernel
theorem dX4_makeRound_218 : decode cX4_makeRound 218 = .ok (.iconst 0, 1) := by decide +kernel
theorem dX4_makeRound_219 : decode cX4_makeRound 219 = .ok (.istore_n 2, 1) := by decide +kernel
theorem dX4_makeRound_220 : decode cX4_makeRound 220 = .ok (.iload_n 3, 1) := by decide +kernel
theorem dX4_makeRound_221 : decode cX4_makeRound 221 = .ok (.iload 8, 2) := by decide +kernel
theorem dX4_makeRound_223 : decode cX4_makeRound 223 = .ok (.ifCond .ne 14, 3) := by decide +kernel
theorem dX4_makeRound_226 : decode cX4_makeRound 226 = .ok (.aload_n 0, 1) := by decide +kernel
theorem dX4_makeRound_227 : decode cX4_makeRound 227 = .ok (.aload_n 1, 1) := by decide +kernel
theorem dX4_makeRound_228 : decode cX4_makeRound 228 = .ok (.iload_n 3, 1) := by decide +kernel
theorem dX4_makeRound_229 : decode cX4_makeRound 229 = .ok (.iload 7, 2) := by decide +kernel
theorem dX4_makeRound_231 : decode cX4_makeRound 231 = .ok (.invokevirtual 125, 3) := by decide +kernel
theorem dX4_makeRound_234 : decode cX4_makeRound 234 = .ok (.ifCond .eq 7, 3) := by decide +kernel
theorem dX4_makeRound_237 : decode cX4_makeRound 237 = .ok (.iconst 1, 1) := by decide +kernel
theorem dX4_makeRound_238 : decode cX4_makeRound 238 = .ok (.goto 4, 3) := by decide +kernel
theorem dX4_makeRound_241 : decode cX4_makeRound 241 = .ok (.iconst 0, 1) := by decide +kernel
theorem dX4_makeRound_242 : decode cX4_makeRound 242 = .ok (.iadd, 1) := by decide +kernel
theorem dX4_makeRound_243 : decode cX4_makeRound 243 = .ok (.istore_n 3, 1) := by decide +kernel
theorem dX4_makeRound_244 : decode cX4_makeRound 244 = .ok (.iinc 4 1, 3) := by decide +kernel
theorem dX4_makeRound_247 : decode cX4_makeRound 247 = .ok (.goto (-230), 3) := by decide +kernel
theorem dX4_makeRound_250 : decode cX4_makeRound 250 = .ok (.iload_n 2, 1) := by decide +kernel
theorem dX4_makeRound_251 : decode cX4_makeRound 251 = .ok (.ifCond .ne 11, 3) := by decide +kernel
theorem dX4_makeRound_254 : decode cX4_makeRound 254 = .ok (.aload_n 0, 1) := by decide +kernel
theorem dX4_makeRound_255 : decode cX4_makeRound 255 = .ok (.aload_n 1, 1) := by decide +kernel
theorem dX4_makeRound_256 : decode cX4_makeRound 256 = .ok (.invokevirtual 78, 3) := by decide +kernel
theorem dX4_makeRound_259 : decode cX4_makeRound 259 = .ok (.goto 18, 3) := by decide +kernel
theorem dX4_makeRound_262 : decode cX4_makeRound 262 = .ok (.aload_n 1, 1) := by decide +kernel
theorem dX4_makeRound_263 : decode cX4_makeRound 263 = .ok (.invokevirtual 129, 3) := by decide +kernel
theorem dX4_makeRound_266 : decode cX4_makeRound 266 = .ok (.ifCond .eq 11, 3) := by decide +kernel
theorem dX4_makeRound_269 : decode cX4_makeRound 269 = .ok (.aload_n 0, 1) := by decide +kernel
theorem dX4_makeRound_270 : decode cX4_makeRound 270 = .ok (.getfield 42, 3) := by decide +kernel
theorem dX4_makeRound_273 : decode cX4_makeRound 273 = .ok (.iconst 4, 1) := by decide +kernel
theorem dX4_makeRound_274 : decode cX4_makeRound 274 = .ok (.invokevirtual 54, 3) := by decide +kernel
theorem dX4_makeRound_277 : decode cX4_makeRound 277 = .ok (.return_, 1) := by decide +kernel

section
variable {p : Program} {l : Launch} {e : Env} {R : Room} {s : State} {m : MethodId} {args : Array Value} {below : List Frame} {meth : Method} {c : Code} {H : Heap} {locs : List Loc} {Qf : State → Prop}
variable {ls : Array Slot} {D : va_G} {ca : Nat → ClassId} {A : Nat → Prop} {ad : Nat → Nat → Nat} {u : iST}
def v_4_makeRound_250 (Q : iST → Prop) (x1 : Int) (x2 : Int) (u : iST) : Prop :=
  br (x2 ≠ 0) (
    v_1_isTooBig x1 (fun v3 u => 
    br (v3 = 0) (
      Q u) (
      v_7_blame 4 (fun u => 
      Q u) u)) u) (
    v_4_leave x1 (fun u => 
    Q u) u)
set_option maxRecDepth 20000 in
set_option maxHeartbeats 4000000 in
theorem f_4_makeRound_250 (X : yX RX4 p m c cX4_makeRound 9 s args D ca ad A) (hRf : 10 ≤ R.frames) (hRl : 303 ≤ R.locals) {Q : iST → Prop} (hret : ∀ (u : iST) (H : Heap) (locs : List Loc) (ls : Array Slot) (pc : Nat), Q u → yW D ca A ad s H locs u → decode cX4_makeRound pc = .ok (.return_, 1) → W p l e R s m args below meth c H locs 0 0 Qf (F0 m pc ls [])) {x1 x2 : Int} (rx1 : (0 ≤ x1 ∧ x1 < 408)) (rx2 : inR x2) (hw : yW D ca A ad s H locs u) (hl : lv_has ls 9 [(0, .ref (ad 0 3)), (1, .ref (ad 4 x1.toNat)), (2, .int (jI x2))]) (h : v_4_makeRound_250 Q x1 x2 u) : W p l e R s m args below meth c H locs 0 0 Qf (F0 m 250 ls []) := by
  have hx := X.1.1
  have hb := X.1.2.1
  unfold v_4_makeRound_250 at h
  refine lv_iload_n hx hb dX4_makeRound_250 rfl (lv_at hl 2 rfl) ?_
  refine k_if_ne hx hb rx2 dX4_makeRound_251 (tgt := 262) rfl h (fun h => ?_) (fun h => ?_)
  · refine lv_aload_n hx hb dX4_makeRound_262 rfl (lv_at hl 1 rfl) ?_
    refine ycI (n := 0) (e_1_isTooBig rx1 h) 1 (65 + x1.toNat) (r := (RX1, TX1, 4)) rfl yG_4_129 yD_1_isTooBig X hw rfl (yGf_clause (toNat_lt rx1)) (Nat.le_trans (Nat.le_of_ble_eq_true rfl) hRf) (Nat.le_trans (Nat.le_of_ble_eq_true rfl) hRl) rfl hl.1 (Nat.le_of_ble_eq_true rfl) rfl dX4_makeRound_263 (fun v3 u H locs rv3 h hw => ?_)
    refine k_if_eq hx hb rv3 dX4_makeRound_266 (tgt := 277) rfl h (fun h => ?_) (fun h => ?_)
    · exact hret _ _ _ _ _ h hw dX4_makeRound_277
    · refine lv_aload_n hx hb dX4_makeRound_269 rfl (lv_at hl 0 rfl) ?_
      refine yg_4_42 X hw dX4_makeRound_270 ?_
      refine lv_iconst hx hb dX4_makeRound_273 (v := jI 4) rfl ?_
      refine ycV (n := 1) (e_7_blame (by decide) h) 7 6 (r := (RX7, TX7, 9)) rfl yG_4_54 yD_7_blame X hw rfl yGo_7 (Nat.le_trans (Nat.le_of_ble_eq_true rfl) hRf) (Nat.le_trans (Nat.le_of_ble_eq_true rfl) hRl) rfl hl.1 (Nat.le_of_ble_eq_true rfl) rfl dX4_makeRound_274 (fun u H locs h hw => ?_)
      exact hret _ _ _ _ _ h hw dX4_makeRound_277
  · refine lv_aload_n hx hb dX4_makeRound_254 rfl (lv_at hl 0 rfl) ?_
    refine lv_aload_n hx hb dX4_makeRound_255 rfl (lv_at hl 1 rfl) ?_
    refine ycV (n := 1) (e_4_leave rx1 h) 4 3 (r := (RX4, TX4, 11)) rfl yG_4_78 yD_4_leave X hw rfl yGo_4 (Nat.le_trans (Nat.le_of_ble_eq_true rfl) hRf) (Nat.le_trans (Nat.le_of_ble_eq_true rfl) hRl) rfl hl.1 (Nat.le_of_ble_eq_true rfl) rfl dX4_makeRound_256 (fun u H locs h hw => ?_)
    refine lv_goto hx hb dX4_makeRound_259 (tgt := 277) rfl ?_
    exact hret _ _ _ _ _ h hw dX4_makeRound_277

def v_4_makeRound_177 (Q : iST → Prop) (x1 : Int) (x3 : Int) (x7 : Int) (u : iST) : Prop :=
  v_4_split x1 x3 x7 (fun u => 
  Q u) u
set_option maxRecDepth 20000 in
set_option maxHeartbeats 4000000 in
theorem f_4_makeRound_177 (X : yX RX4 p m c cX4_makeRound 9 s args D ca ad A) (hRf : 10 ≤ R.frames) (hRl : 303 ≤ R.locals) {Q : iST → Prop} (hret : ∀ (u : iST) (H : Heap) (locs : List Loc) (ls : Array Slot) (pc : Nat), Q u → yW D ca A ad s H locs u → decode cX4_makeRound pc = .ok (.return_, 1) → W p l e R s m args below meth c H locs 0 0 Qf (F0 m pc ls [])) {x1 x3 x7 : Int} (rx1 : (0 ≤ x1 ∧ x1 < 408)) (rx3 : inR x3) (rx7 : inR x7) (hw : yW D ca A ad s H locs u) (hl : lv_has ls 9 [(0, .ref (ad 0 3)), (1, .ref (ad 4 x1.toNat)), (3, .int (jI x3)), (7, .int (jI x7))]) (h : v_4_makeRound_177 Q x1 x3 x7 u) : W p l e R s m args below meth c H locs 0 0 Qf (F0 m 177 ls []) := by
  have hx := X.1.1
  have hb := X.1.2.1
  unfold v_4_makeRound_177 at h
  refine lv_aload_n hx hb dX4_makeRound_177 rfl (lv_at hl 0 rfl) ?_
  refine lv_aload_n hx hb dX4_makeRound_178 rfl (lv_at hl 1 rfl) ?_
  refine lv_iload_n hx hb dX4_makeRound_179 rfl (lv_at hl 2 rfl) ?_
  refine lv_iload hx hb dX4_makeRound_180 (lv_at hl 3 rfl) ?_
  refine ycV (n := 3) (e_4_split rx1 rx3 rx7 h) 4 3 (r := (RX4, TX4, 11)) rfl yG_4_121 yD_4_split X hw rfl yGo_4 (Nat.le_trans (Nat.le_of_ble_eq_true rfl) hRf) (Nat.le_trans (Nat.le_of_ble_eq_true rfl) hRl) rfl hl.1 (Nat.le_of_ble_eq_true rfl) rfl dX4_makeRound_182 (fun u H locs h hw => ?_)
  exact hret _ _ _ _ _ h hw dX4_makeRound_185

def v_4_makeRound_237 (R17 : Int → Int → Int → Int → iST → Prop) (Q : iST → Prop) (x1 : Int) (x2 : Int) (x4 : Int) (y0 : Int) (u : iST) : Prop :=
  ov (y0 + 1) (
  ov (x4 + 1) (
  R17 x1 x2 (y0 + 1) (x4 + 1) u))
set_option maxRecDepth 20000 in
set_option maxHeartbeats 4000000 in
theorem f_4_makeRound_237 (X : yX RX4 p m c cX4_makeRound 9 s args D ca ad A) (hRf : 10 ≤ R.frames) (hRl : 303 ≤ R.locals) {Q : iST → Prop} (hret : ∀ (u : iST) (H : Heap) (locs : List Loc) (ls : Array Slot) (pc : Nat), Q u → yW D ca A ad s H locs u → decode cX4_makeRound pc = .ok (.return_, 1) → W p l e R s m args below meth c H locs 0 0 Qf (F0 m pc ls [])) {R17 : Int → Int → Int → Int → iST → Prop} (hR17 : ∀ (x1 : Int) (x2 : Int) (x3 : Int) (x4 : Int) (u : iST) (H : Heap) (locs : List Loc) (ls : Array Slot), (0 ≤ x1 ∧ x1 < 408) → inR x2 → inR x3 → inR x4 → yW D ca A ad s H locs u → lv_has ls 9 [(0, .ref (ad 0 3)), (1, .ref (ad 4 x1.toNat)), (2, .int (jI x2)), (3, .int (jI x3)), (4, .int (jI x4))] → R17 x1 x2 x3 x4 u → W p l e R s m args below meth c H locs 0 0 Qf (F0 m 17 ls [])) {x1 x2 x4 y0 : Int} (rx1 : (0 ≤ x1 ∧ x1 < 408)) (rx2 : inR x2) (rx4 : inR x4) (ry0 : inR y0) (hw : yW D ca A ad s H locs u) (hl : lv_has ls 9 [(0, .ref (ad 0 3)), (1, .ref (ad 4 x1.toNat)), (2, .int (jI x2)), (4, .int (jI x4))]) (h : v_4_makeRound_237 R17 Q x1 x2 x4 y0 u) : W p l e R s m args below meth c H locs 0 0 Qf (F0 m 237 ls [.int (jI y0)]) := by
  have hx := X.1.1
  have hb := X.1.2.1
  unfold v_4_makeRound_237 at h
  refine lv_iconst hx hb dX4_makeRound_237 (v := jI 1) rfl ?_
  refine lv_goto hx hb dX4_makeRound_238 (tgt := 242) rfl ?_
  refine k_iadd hx hb dX4_makeRound_242 h (fun r13 h => ?_)
  refine lv_istore_n hx hb dX4_makeRound_243 rfl hl (by decide) rfl (fun ls hl => ?_)
  have hl : lv_has ls 9 [(3, .int (jI (y0 + 1))), (0, .ref (ad 0 3)), (1, .ref (ad 4 x1.toNat)), (2, .int (jI x2)), (4, .int (jI x4))] := hl
  refine k_iinc (k := 4) hx hb dX4_makeRound_244 hl rfl (by decide) rfl h (fun ls r14 h hl => ?_)
  have hl : lv_has ls 9 [(4, .int (jI (x4 + 1))), (3, .int (jI (y0 + 1))), (0, .ref (ad 0 3)), (1, .ref (ad 4 x1.toNat)), (2, .int (jI x2))] := hl
  refine lv_goto hx hb dX4_makeRound_247 (tgt := 17) rfl ?_
  exact hR17 _ _ _ _ _ H locs ls rx1 rx2 r13 r14 hw (lv_sub hl [2, 3, 4, 1, 0] rfl) h

def v_4_makeRound_219 (R17 : Int → Int → Int → Int → iST → Prop) (Q : iST → Prop) (x1 : Int) (x3 : Int) (x4 : Int) (x7 : Int) (x8 : Int) (y0 : Int) (u : iST) : Prop :=
  br (x8 ≠ 0) (
    v_4_makeRound_237 R17 Q x1 y0 x4 x3 u) (
    v_4_stands x1 x3 x7 (fun v15 u => 
    br (v15 = 0) (
      ov (x3 + 0) (
      ov (x4 + 1) (
      R17 x1 y0 (x3 + 0) (x4 + 1) u))) (
      v_4_makeRound_237 R17 Q x1 y0 x4 x3 u)) u)
set_option maxRecDepth 20000 in
set_option maxHeartbeats 4000000 in
theorem f_4_makeRound_219 (X : yX RX4 p m c cX4_makeRound 9 s args D ca ad A) (hRf : 10 ≤ R.frames) (hRl : 303 ≤ R.locals) {Q : iST → Prop} (hret : ∀ (u : iST) (H : Heap) (locs : List Loc) (ls : Array Slot) (pc : Nat), Q u → yW D ca A ad s H locs u → decode cX4_makeRound pc = .ok (.return_, 1) → W p l e R s m args below meth c H locs 0 0 Qf (F0 m pc ls [])) {R17 : Int → Int → Int → Int → iST → Prop} (hR17 : ∀ (x1 : Int) (x2 : Int) (x3 : Int) (x4 : Int) (u : iST) (H : Heap) (locs : List Loc) (ls : Array Slot), (0 ≤ x1 ∧ x1 < 408) → inR x2 → inR x3 → inR x4 → yW D ca A ad s H locs u → lv_has ls 9 [(0, .ref (ad 0 3)), (1, .ref (ad 4 x1.toNat)), (2, .int (jI x2)), (3, .int (jI x3)), (4, .int (jI x4))] → R17 x1 x2 x3 x4 u → W p l e R s m args below meth c H locs 0 0 Qf (F0 m 17 ls [])) {x1 x3 x4 x7 x8 y0 : Int} (rx1 : (0 ≤ x1 ∧ x1 < 408)) (rx3 : inR x3) (rx4 : inR x4) (rx7 : inR x7) (rx8 : inR x8) (ry0 : inR y0) (hw : yW D ca A ad s H locs u) (hl : lv_has ls 9 [(0, .ref (ad 0 3)), (1, .ref (ad 4 x1.toNat)), (3, .int (jI x3)), (4, .int (jI x4)), (7, .int (jI x7)), (8, .int (jI x8))]) (h : v_4_makeRound_219 R17 Q x1 x3 x4 x7 x8 y0 u) : W p l e R s m args below meth c H locs 0 0 Qf (F0 m 219 ls [.int (jI y0)]) := by
  have hx := X.1.1
  have hb := X.1.2.1
  unfold v_4_makeRound_219 at h
  refine lv_istore_n hx hb dX4_makeRound_219 rfl hl (by decide) rfl (fun ls hl => ?_)
  have hl : lv_has ls 9 [(2, .int (jI y0)), (0, .ref (ad 0 3)), (1, .ref (ad 4 x1.toNat)), (3, .int (jI x3)), (4, .int (jI x4)), (7, .int (jI x7)), (8, .int (jI x8))] := hl
  refine lv_iload_n hx hb dX4_makeRound_220 rfl (lv_at hl 3 rfl) ?_
  refine lv_iload hx hb dX4_makeRound_221 (lv_at hl 6 rfl) ?_
  refine k_if_ne hx hb rx8 dX4_makeRound_223 (tgt := 237) rfl h (fun h => ?_) (fun h => ?_)
  · exact f_4_makeRound_237 X hRf hRl hret hR17 rx1 ry0 rx4 rx3 hw (lv_sub hl [1, 2, 0, 4] rfl) h
  · refine lv_aload_n hx hb dX4_makeRound_226 rfl (lv_at hl 1 rfl) ?_
    refine lv_aload_n hx hb dX4_makeRound_227 rfl (lv_at hl 2 rfl) ?_
    refine lv_iload_n hx hb dX4_makeRound_228 rfl (lv_at hl 3 rfl) ?_
    refine lv_iload hx hb dX4_makeRound_229 (lv_at hl 5 rfl) ?_
    refine ycI (n := 3) (e_4_stands rx1 rx3 rx7 h) 4 3 (r := (RX4, TX4, 11)) rfl yG_4_125 yD_4_stands X hw rfl yGo_4 (Nat.le_trans (Nat.le_of_ble_eq_true rfl) hRf) (Nat.le_trans (Nat.le_of_ble_eq_true rfl) hRl) rfl hl.1 (Nat.le_of_ble_eq_true rfl) rfl dX4_makeRound_231 (fun v15 u H locs rv15 h hw => ?_)
    refine k_if_eq hx hb rv15 dX4_makeRound_234 (tgt := 241) rfl h (fun h => ?_) (fun h => ?_)
    · refine lv_iconst hx hb dX4_makeRound_241 (v := jI 0) rfl ?_
      refine k_iadd hx hb dX4_makeRound_242 h (fun r16 h => ?_)
      refine lv_istore_n hx hb dX4_makeRound_243 rfl hl (by decide) rfl (fun ls hl => ?_)
      have hl : lv_has ls 9 [(3, .int (jI (x3 + 0))), (2, .int (jI y0)), (0, .ref (ad 0 3)), (1, .ref (ad 4 x1.toNat)), (4, .int (jI x4)), (7, .int (jI x7)), (8, .int (jI x8))] := hl
      refine k_iinc (k := 4) hx hb dX4_makeRound_244 hl rfl (by decide) rfl h (fun ls r17 h hl => ?_)
      have hl : lv_has ls 9 [(4, .int (jI (x4 + 1))), (3, .int (jI (x3 + 0))), (2, .int (jI y0)), (0, .ref (ad 0 3)), (1, .ref (ad 4 x1.toNat)), (7, .int (jI x7)), (8, .int (jI x8))] := hl
      refine lv_goto hx hb dX4_makeRound_247 (tgt := 17) rfl ?_
      exact hR17 _ _ _ _ _ H locs ls rx1 ry0 r16 r17 hw (lv_sub hl [3, 4, 2, 1, 0] rfl) h
    · exact f_4_makeRound_237 X hRf hRl hret hR17 rx1 ry0 rx4 rx3 hw (lv_sub hl [1, 2, 0, 4] rfl) h

def v_4_makeRound_214 (R17 : Int → Int → Int → Int → iST → Prop) (Q : iST → Prop) (x1 : Int) (x3 : Int) (x4 : Int) (x7 : Int) (x8 : Int) (u : iST) : Prop :=
  v_4_makeRound_219 R17 Q x1 x3 x4 x7 x8 1 u
set_option maxRecDepth 20000 in
set_option maxHeartbeats 4000000 in
theorem f_4_makeRound_214 (X : yX RX4 p m c cX4_makeRound 9 s args D ca ad A) (hRf : 10 ≤ R.frames) (hRl : 303 ≤ R.locals) {Q : iST → Prop} (hret : ∀ (u : iST) (H : Heap) (locs : List Loc) (ls : Array Slot) (pc : Nat), Q u → yW D ca A ad s H locs u → decode cX4_makeRound pc = .ok (.return_, 1) → W p l e R s m args below meth c H locs 0 0 Qf (F0 m pc ls [])) {R17 : Int → Int → Int → Int → iST → Prop} (hR17 : ∀ (x1 : Int) (x2 : Int) (x3 : Int) (x4 : Int) (u : iST) (H : Heap) (locs : List Loc) (ls : Array Slot), (0 ≤ x1 ∧ x1 < 408) → inR x2 → inR x3 → inR x4 → yW D ca A ad s H locs u → lv_has ls 9 [(0, .ref (ad 0 3)), (1, .ref (ad 4 x1.toNat)), (2, .int (jI x2)), (3, .int (jI x3)), (4, .int (jI x4))] → R17 x1 x2 x3 x4 u → W p l e R s m args below meth c H locs 0 0 Qf (F0 m 17 ls [])) {x1 x3 x4 x7 x8 : Int} (rx1 : (0 ≤ x1 ∧ x1 < 408)) (rx3 : inR x3) (rx4 : inR x4) (rx7 : inR x7) (rx8 : inR x8) (hw : yW D ca A ad s H locs u) (hl : lv_has ls 9 [(0, .ref (ad 0 3)), (1, .ref (ad 4 x1.toNat)), (3, .int (jI x3)), (4, .int (jI x4)), (7, .int (jI x7)), (8, .int (jI x8))]) (h : v_4_makeRound_214 R17 Q x1 x3 x4 x7 x8 u) : W p l e R s m args below meth c H locs 0 0 Qf (F0 m 214 ls []) := by
  have hx := X.1.1
  have hb := X.1.2.1
  unfold v_4_makeRound_214 at h
  refine lv_iconst hx hb dX4_makeRound_214 (v := jI 1) rfl ?_
  refine lv_goto hx hb dX4_makeRound_215 (tgt := 219) rfl ?_
  exact f_4_makeRound_219 X hRf hRl hret hR17 rx1 rx3 rx4 rx7 rx8 (by decide) hw hl h

def v_4_makeRound_203 (R17 : Int → Int → Int → Int → iST → Prop) (Q : iST → Prop) (x1 : Int) (x2 : Int) (x3 : Int) (x4 : Int) (x7 : Int) (y0 : Int) (u : iST) : Prop :=
  br (x2 ≠ 0) (
    v_4_makeRound_214 R17 Q x1 x3 x4 x7 y0 u) (
    br (y0 ≠ 0) (
      v_4_makeRound_219 R17 Q x1 x3 x4 x7 y0 0 u) (
      v_4_makeRound_214 R17 Q x1 x3 x4 x7 y0 u))
set_option maxRecDepth 20000 in
set_option maxHeartbeats 4000000 in
theorem f_4_makeRound_203 (X : yX RX4 p m c cX4_makeRound 9 s args D ca ad A) (hRf : 10 ≤ R.frames) (hRl : 303 ≤ R.locals) {Q : iST → Prop} (hret : ∀ (u : iST) (H : Heap) (locs : List Loc) (ls : Array Slot) (pc : Nat), Q u → yW D ca A ad s H locs u → decode cX4_makeRound pc = .ok (.return_, 1) → W p l e R s m args below meth c H locs 0 0 Qf (F0 m pc ls [])) {R17 : Int → Int → Int → Int → iST → Prop} (hR17 : ∀ (x1 : Int) (x2 : Int) (x3 : Int) (x4 : Int) (u : iST) (H : Heap) (locs : List Loc) (ls : Array Slot), (0 ≤ x1 ∧ x1 < 408) → inR x2 → inR x3 → inR x4 → yW D ca A ad s H locs u → lv_has ls 9 [(0, .ref (ad 0 3)), (1, .ref (ad 4 x1.toNat)), (2, .int (jI x2)), (3, .int (jI x3)), (4, .int (jI x4))] → R17 x1 x2 x3 x4 u → W p l e R s m args below meth c H locs 0 0 Qf (F0 m 17 ls [])) {x1 x2 x3 x4 x7 y0 : Int} (rx1 : (0 ≤ x1 ∧ x1 < 408)) (rx2 : inR x2) (rx3 : inR x3) (rx4 : inR x4) (rx7 : inR x7) (ry0 : inR y0) (hw : yW D ca A ad s H locs u) (hl : lv_has ls 9 [(0, .ref (ad 0 3)), (1, .ref (ad 4 x1.toNat)), (2, .int (jI x2)), (3, .int (jI x3)), (4, .int (jI x4)), (7, .int (jI x7))]) (h : v_4_makeRound_203 R17 Q x1 x2 x3 x4 x7 y0 u) : W p l e R s m args below meth c H locs 0 0 Qf (F0 m 203 ls [.int (jI y0)]) := by
  have hx := X.1.1
  have hb := X.1.2.1
  unfold v_4_makeRound_203 at h
  refine lv_istore hx hb dX4_makeRound_203 hl (by decide) rfl (fun ls hl => ?_)
  have hl : lv_has ls 9 [(8, .int (jI y0)), (0, .ref (ad 0 3)), (1, .ref (ad 4 x1.toNat)), (2, .int (jI x2)), (3, .int (jI x3)), (4, .int (jI x4)), (7, .int (jI x7))] := hl
  refine lv_iload_n hx hb dX4_makeRound_205 rfl (lv_at hl 3 rfl) ?_
  refine k_if_ne hx hb rx2 dX4_makeRound_206 (tgt := 214) rfl h (fun h => ?_) (fun h => ?_)
  · exact f_4_makeRound_214 X hRf hRl hret hR17 rx1 rx3 rx4 rx7 ry0 hw (lv_sub hl [1, 2, 4, 5, 6, 0] rfl) h
  · refine lv_iload hx hb dX4_makeRound_209 (lv_at hl 0 rfl) ?_
    refine k_if_ne hx hb ry0 dX4_makeRound_211 (tgt := 218) rfl h (fun h => ?_) (fun h => ?_)
    · refine lv_iconst hx hb dX4_makeRound_218 (v := jI 0) rfl ?_
      exact f_4_makeRound_219 X hRf hRl hret hR17 rx1 rx3 rx4 rx7 ry0 (by decide) hw (lv_sub hl [1, 2, 4, 5, 6, 0] rfl) h
    · exact f_4_makeRound_214 X hRf hRl hret hR17 rx1 rx3 rx4 rx7 ry0 hw (lv_sub hl [1, 2, 4, 5, 6, 0] rfl) h

def v_4_makeRound_202 (R17 : Int → Int → Int → Int → iST → Prop) (Q : iST → Prop) (x1 : Int) (x2 : Int) (x3 : Int) (x4 : Int) (x7 : Int) (u : iST) : Prop :=
  v_4_makeRound_203 R17 Q x1 x2 x3 x4 x7 0 u
set_option maxRecDepth 20000 in
set_option maxHeartbeats 4000000 in
theorem f_4_makeRound_202 (X : yX RX4 p m c cX4_makeRound 9 s args D ca ad A) (hRf : 10 ≤ R.frames) (hRl : 303 ≤ R.locals) {Q : iST → Prop} (hret : ∀ (u : iST) (H : Heap) (locs : List Loc) (ls : Array Slot) (pc : Nat), Q u → yW D ca A ad s H locs u → decode cX4_makeRound pc = .ok (.return_, 1) → W p l e R s m args below meth c H locs 0 0 Qf (F0 m pc ls [])) {R17 : Int → Int → Int → Int → iST → Prop} (hR17 : ∀ (x1 : Int) (x2 : Int) (x3 : Int) (x4 : Int) (u : iST) (H : Heap) (locs : List Loc) (ls : Array Slot), (0 ≤ x1 ∧ x1 < 408) → inR x2 → inR x3 → inR x4 → yW D ca A ad s H locs u → lv_has ls 9 [(0, .ref (ad 0 3)), (1, .ref (ad 4 x1.toNat)), (2, .int (jI x2)), (3, .int (jI x3)), (4, .int (jI x4))] → R17 x1 x2 x3 x4 u → W p l e R s m args below meth c H locs 0 0 Qf (F0 m 17 ls [])) {x1 x2 x3 x4 x7 : Int} (rx1 : (0 ≤ x1 ∧ x1 < 408)) (rx2 : inR x2) (rx3 : inR x3) (rx4 : inR x4) (rx7 : inR x7) (hw : yW D ca A ad s H locs u) (hl : lv_has ls 9 [(0, .ref (ad 0 3)), (1, .ref (ad 4 x1.toNat)), (2, .int (jI x2)), (3, .int (jI x3)), (4, .int (jI x4)), (7, .int (jI x7))]) (h : v_4_makeRound_202 R17 Q x1 x2 x3 x4 x7 u) : W p l e R s m args below meth c H locs 0 0 Qf (F0 m 202 ls []) := by
  have hx := X.1.1
  have hb := X.1.2.1
  unfold v_4_makeRound_202 at h
  refine lv_iconst hx hb dX4_makeRound_202 (v := jI 0) rfl ?_
  exact f_4_makeRound_203 X hRf hRl hret hR17 rx1 rx2 rx3 rx4 rx7 (by decide) hw hl h

def v_4_makeRound_186 (R17 : Int → Int → Int → Int → iST → Prop) (Q : iST → Prop) (x1 : Int) (x2 : Int) (x3 : Int) (x4 : Int) (x5 : Int) (x7 : Int) (u : iST) : Prop :=
  br (x7 ≠ x5) (
    v_4_makeRound_202 R17 Q x1 x2 x3 x4 x7 u) (
    br (x7 = 0) (
      v_4_makeRound_202 R17 Q x1 x2 x3 x4 x7 u) (
      v_4_makeRound_203 R17 Q x1 x2 x3 x4 x7 1 u))
set_option maxRecDepth 20000 in
set_option maxHeartbeats 4000000 in
theorem f_4_makeRound_186 (X : yX RX4 p m c cX4_makeRound 9 s args D ca ad A) (hRf : 10 ≤ R.frames) (hRl : 303 ≤ R.locals) {Q : iST → Prop} (hret : ∀ (u : iST) (H : Heap) (locs : List Loc) (ls : Array Slot) (pc : Nat), Q u → yW D ca A ad s H locs u → decode cX4_makeRound pc = .ok (.return_, 1) → W p l e R s m args below meth c H locs 0 0 Qf (F0 m pc ls [])) {R17 : Int → Int → Int → Int → iST → Prop} (hR17 : ∀ (x1 : Int) (x2 : Int) (x3 : Int) (x4 : Int) (u : iST) (H : Heap) (locs : List Loc) (ls : Array Slot), (0 ≤ x1 ∧ x1 < 408) → inR x2 → inR x3 → inR x4 → yW D ca A ad s H locs u → lv_has ls 9 [(0, .ref (ad 0 3)), (1, .ref (ad 4 x1.toNat)), (2, .int (jI x2)), (3, .int (jI x3)), (4, .int (jI x4))] → R17 x1 x2 x3 x4 u → W p l e R s m args below meth c H locs 0 0 Qf (F0 m 17 ls [])) {x1 x2 x3 x4 x5 x7 : Int} (rx1 : (0 ≤ x1 ∧ x1 < 408)) (rx2 : inR x2) (rx3 : inR x3) (rx4 : inR x4) (rx5 : inR x5) (rx7 : inR x7) (hw : yW D ca A ad s H locs u) (hl : lv_has ls 9 [(0, .ref (ad 0 3)), (1, .ref (ad 4 x1.toNat)), (2, .int (jI x2)), (3, .int (jI x3)), (4, .int (jI x4)), (5, .int (jI x5)), (7, .int (jI x7))]) (h : v_4_makeRound_186 R17 Q x1 x2 x3 x4 x5 x7 u) : W p l e R s m args below meth c H locs 0 0 Qf (F0 m 186 ls []) := by
  have hx := X.1.1
  have hb := X.1.2.1
  unfold v_4_makeRound_186 at h
  refine lv_iload hx hb dX4_makeRound_186 (lv_at hl 6 rfl) ?_
  refine lv_iload hx hb dX4_makeRound_188 (lv_at hl 5 rfl) ?_
  refine k_icmp_ne hx hb rx7 rx5 dX4_makeRound_190 (tgt := 202) rfl h (fun h => ?_) (fun h => ?_)
  · exact f_4_makeRound_202 X hRf hRl hret hR17 rx1 rx2 rx3 rx4 rx7 hw (lv_sub hl [0, 1, 2, 3, 4, 6] rfl) h
  · refine lv_iload hx hb dX4_makeRound_193 (lv_at hl 6 rfl) ?_
    refine k_if_eq hx hb rx7 dX4_makeRound_195 (tgt := 202) rfl h (fun h => ?_) (fun h => ?_)
    · exact f_4_makeRound_202 X hRf hRl hret hR17 rx1 rx2 rx3 rx4 rx7 hw (lv_sub hl [0, 1, 2, 3, 4, 6] rfl) h
    · refine lv_iconst hx hb dX4_makeRound_198 (v := jI 1) rfl ?_
      refine lv_goto hx hb dX4_makeRound_199 (tgt := 203) rfl ?_
      exact f_4_makeRound_203 X hRf hRl hret hR17 rx1 rx2 rx3 rx4 rx7 (by decide) hw (lv_sub hl [0, 1, 2, 3, 4, 6] rfl) h

def v_4_makeRound_97 (R17 : Int → Int → Int → Int → iST → Prop) (Q : iST → Prop) (x1 : Int) (x2 : Int) (x3 : Int) (x4 : Int) (x5 : Int) (x7 : Int) (u : iST) : Prop :=
  br (x7 ≠ (-1)) (
    br (x7 ≠ 1) (
      v_7_isCallOf x7 3 (fun v10 u => 
      br (v10 ≠ 0) (
        v_4_makeRound_177 Q x1 x3 x7 u) (
        v_7_isCallOf x7 16 (fun v12 u => 
        br (v12 = 0) (
          v_4_makeRound_186 R17 Q x1 x2 x3 x4 x5 x7 u) (
          v_7_item x7 1 (fun v18 u => 
          v_7_isCallOf v18 3 (fun v19 u => 
          br (v19 = 0) (
            v_4_makeRound_186 R17 Q x1 x2 x3 x4 x5 x7 u) (
            v_4_makeRound_177 Q x1 x3 x7 u)) u) u)) u)) u) (
      rd (u.1 14) (fun v20 => 
      ov (v20 - 1) (
      sw (iI u 14 (v20 - 1)) (fun u => 
      Q u))))) (
    v_7_blame 4 (fun u => 
    Q u) u)
set_option maxRecDepth 20000 in
set_option maxHeartbeats 4000000 in
theorem f_4_makeRound_97 (X : yX RX4 p m c cX4_makeRound 9 s args D ca ad A) (hRf : 10 ≤ R.frames) (hRl : 303 ≤ R.locals) {Q : iST → Prop} (hret : ∀ (u : iST) (H : Heap) (locs : List Loc) (ls : Array Slot) (pc : Nat), Q u → yW D ca A ad s H locs u → decode cX4_makeRound pc = .ok (.return_, 1) → W p l e R s m args below meth c H locs 0 0 Qf (F0 m pc ls [])) {R17 : Int → Int → Int → Int → iST → Prop} (hR17 : ∀ (x1 : Int) (x2 : Int) (x3 : Int) (x4 : Int) (u : iST) (H : Heap) (locs : List Loc) (ls : Array Slot), (0 ≤ x1 ∧ x1 < 408) → inR x2 → inR x3 → inR x4 → yW D ca A ad s H locs u → lv_has ls 9 [(0, .ref (ad 0 3)), (1, .ref (ad 4 x1.toNat)), (2, .int (jI x2)), (3, .int (jI x3)), (4, .int (jI x4))] → R17 x1 x2 x3 x4 u → W p l e R s m args below meth c H locs 0 0 Qf (F0 m 17 ls [])) {x1 x2 x3 x4 x5 x7 : Int} (rx1 : (0 ≤ x1 ∧ x1 < 408)) (rx2 : inR x2) (rx3 : inR x3) (rx4 : inR x4) (rx5 : inR x5) (rx7 : inR x7) (hw : yW D ca A ad s H locs u) (hl : lv_has ls 9 [(0, .ref (ad 0 3)), (1, .ref (ad 4 x1.toNat)), (2, .int (jI x2)), (3, .int (jI x3)), (4, .int (jI x4)), (5, .int (jI x5)), (7, .int (jI x7))]) (h : v_4_makeRound_97 R17 Q x1 x2 x3 x4 x5 x7 u) : W p l e R s m args below meth c H locs 0 0 Qf (F0 m 97 ls []) := by
  have hx := X.1.1
  have hb := X.1.2.1
  unfold v_4_makeRound_97 at h
  refine lv_iload hx hb dX4_makeRound_97 (lv_at hl 6 rfl) ?_
  refine lv_iconst hx hb dX4_makeRound_99 (v := jI (-1)) rfl ?_
  refine k_icmp_ne hx hb rx7 (by decide) dX4_makeRound_100 (tgt := 112) rfl h (fun h => ?_) (fun h => ?_)
  · refine lv_iload hx hb dX4_makeRound_112 (lv_at hl 6 rfl) ?_
    refine lv_iconst hx hb dX4_makeRound_114 (v := jI 1) rfl ?_
    refine k_icmp_ne hx hb rx7 (by decide) dX4_makeRound_115 (tgt := 129) rfl h (fun h => ?_) (fun h => ?_)
    · refine lv_aload_n hx hb dX4_makeRound_129 rfl (lv_at hl 0 rfl) ?_
      refine yg_4_42 X hw dX4_makeRound_130 ?_
      refine lv_iload hx hb dX4_makeRound_133 (lv_at hl 6 rfl) ?_
      refine lv_iconst hx hb dX4_makeRound_135 (v := jI 3) rfl ?_
      refine ycI (n := 2) (e_7_isCallOf rx7 (by decide) h) 7 6 (r := (RX7, TX7, 9)) rfl yG_4_114 yD_7_isCallOf X hw rfl yGo_7 (Nat.le_trans (Nat.le_of_ble_eq_true rfl) hRf) (Nat.le_trans (Nat.le_of_ble_eq_true rfl) hRl) rfl hl.1 (Nat.le_of_ble_eq_true rfl) rfl dX4_makeRound_136 (fun v10 u H locs rv10 h hw => ?_)
      refine k_if_ne hx hb rv10 dX4_makeRound_139 (tgt := 177) rfl h (fun h => ?_) (fun h => ?_)
      · exact f_4_makeRound_177 X hRf hRl hret rx1 rx3 rx7 hw (lv_sub hl [0, 1, 3, 6] rfl) h
      · refine lv_aload_n hx hb dX4_makeRound_142 rfl (lv_at hl 0 rfl) ?_
        refine yg_4_42 X hw dX4_makeRound_143 ?_
        refine lv_iload hx hb dX4_makeRound_146 (lv_at hl 6 rfl) ?_
        refine lv_bipush hx hb dX4_makeRound_148 (v := jI 16) rfl ?_
        refine ycI (n := 2) (e_7_isCallOf rx7 (by decide) h) 7 6 (r := (RX7, TX7, 9)) rfl yG_4_114 yD_7_isCallOf X hw rfl yGo_7 (Nat.le_trans (Nat.le_of_ble_eq_true rfl) hRf) (Nat.le_trans (Nat.le_of_ble_eq_true rfl) hRl) rfl hl.1 (Nat.le_of_ble_eq_true rfl) rfl dX4_makeRound_150 (fun v12 u H locs rv12 h hw => ?_)
        refine k_if_eq hx hb rv12 dX4_makeRound_153 (tgt := 186) rfl h (fun h => ?_) (fun h => ?_)
        · exact f_4_makeRound_186 X hRf hRl hret hR17 rx1 rx2 rx3 rx4 rx5 rx7 hw hl h
        · refine lv_aload_n hx hb dX4_makeRound_156 rfl (lv_at hl 0 rfl) ?_
          refine yg_4_42 X hw dX4_makeRound_157 ?_
          refine lv_aload_n hx hb dX4_makeRound_160 rfl (lv_at hl 0 rfl) ?_
          refine yg_4_42 X hw dX4_makeRound_161 ?_
          refine lv_iload hx hb dX4_makeRound_164 (lv_at hl 6 rfl) ?_
          refine lv_iconst hx hb dX4_makeRound_166 (v := jI 1) rfl ?_
          refine ycI (n := 2) (e_7_item rx7 (by decide) h) 7 6 (r := (RX7, TX7, 9)) rfl yG_4_117 yD_7_item X hw rfl yGo_7 (Nat.le_trans (Nat.le_of_ble_eq_true rfl) hRf) (Nat.le_trans (Nat.le_of_ble_eq_true rfl) hRl) rfl hl.1 (Nat.le_of_ble_eq_true rfl) rfl dX4_makeRound_167 (fun v18 u H locs rv18 h hw => ?_)
          refine lv_iconst hx hb dX4_makeRound_170 (v := jI 3) rfl ?_
          refine ycI (n := 2) (e_7_isCallOf rv18 (by decide) h) 7 6 (r := (RX7, TX7, 9)) rfl yG_4_114 yD_7_isCallOf X hw rfl yGo_7 (Nat.le_trans (Nat.le_of_ble_eq_true rfl) hRf) (Nat.le_trans (Nat.le_of_ble_eq_true rfl) hRl) rfl hl.1 (Nat.le_of_ble_eq_true rfl) rfl dX4_makeRound_171 (fun v19 u H locs rv19 h hw => ?_)
          refine k_if_eq hx hb rv19 dX4_makeRound_174 (tgt := 186) rfl h (fun h => ?_) (fun h => ?_)
          · exact f_4_makeRound_186 X hRf hRl hret hR17 rx1 rx2 rx3 rx4 rx5 rx7 hw hl h
          · exact f_4_makeRound_177 X hRf hRl hret rx1 rx3 rx7 hw (lv_sub hl [0, 1, 3, 6] rfl) h
    · refine lv_aload_n hx hb dX4_makeRound_118 rfl (lv_at hl 0 rfl) ?_
      refine lv_dup hx hb dX4_makeRound_119 rfl ?_
      refine yg_4_24 X hw dX4_makeRound_120 h (fun v20 rv20 h => ?_)
      refine lv_iconst hx hb dX4_makeRound_123 (v := jI 1) rfl ?_
      refine k_isub hx hb dX4_makeRound_124 h (fun r21 h => ?_)
      refine yp_4_24 X hw r21 dX4_makeRound_125 h (fun H locs u hw h => ?_)
      exact hret _ _ _ _ _ h hw dX4_makeRound_128
  · refine lv_aload_n hx hb dX4_makeRound_103 rfl (lv_at hl 0 rfl) ?_
    refine yg_4_42 X hw dX4_makeRound_104 ?_
    refine lv_iconst hx hb dX4_makeRound_107 (v := jI 4) rfl ?_
    refine ycV (n := 1) (e_7_blame (by decide) h) 7 6 (r := (RX7, TX7, 9)) rfl yG_4_54 yD_7_blame X hw rfl yGo_7 (Nat.le_trans (Nat.le_of_ble_eq_true rfl) hRf) (Nat.le_trans (Nat.le_of_ble_eq_true rfl) hRl) rfl hl.1 (Nat.le_of_ble_eq_true rfl) rfl dX4_makeRound_108 (fun u H locs h hw => ?_)
    exact hret _ _ _ _ _ h hw dX4_makeRound_111

def v_4_makeRound_95 (R17 : Int → Int → Int → Int → iST → Prop) (Q : iST → Prop) (x1 : Int) (x2 : Int) (x3 : Int) (x4 : Int) (x5 : Int) (y0 : Int) (u : iST) : Prop :=
  v_4_makeRound_97 R17 Q x1 x2 x3 x4 x5 y0 u
set_option maxRecDepth 20000 in
set_option maxHeartbeats 4000000 in
theorem f_4_makeRound_95 (X : yX RX4 p m c cX4_makeRound 9 s args D ca ad A) (hRf : 10 ≤ R.frames) (hRl : 303 ≤ R.locals) {Q : iST → Prop} (hret : ∀ (u : iST) (H : Heap) (locs : List Loc) (ls : Array Slot) (pc : Nat), Q u → yW D ca A ad s H locs u → decode cX4_makeRound pc = .ok (.return_, 1) → W p l e R s m args below meth c H locs 0 0 Qf (F0 m pc ls [])) {R17 : Int → Int → Int → Int → iST → Prop} (hR17 : ∀ (x1 : Int) (x2 : Int) (x3 : Int) (x4 : Int) (u : iST) (H : Heap) (locs : List Loc) (ls : Array Slot), (0 ≤ x1 ∧ x1 < 408) → inR x2 → inR x3 → inR x4 → yW D ca A ad s H locs u → lv_has ls 9 [(0, .ref (ad 0 3)), (1, .ref (ad 4 x1.toNat)), (2, .int (jI x2)), (3, .int (jI x3)), (4, .int (jI x4))] → R17 x1 x2 x3 x4 u → W p l e R s m args below meth c H locs 0 0 Qf (F0 m 17 ls [])) {x1 x2 x3 x4 x5 y0 : Int} (rx1 : (0 ≤ x1 ∧ x1 < 408)) (rx2 : inR x2) (rx3 : inR x3) (rx4 : inR x4) (rx5 : inR x5) (ry0 : inR y0) (hw : yW D ca A ad s H locs u) (hl : lv_has ls 9 [(0, .ref (ad 0 3)), (1, .ref (ad 4 x1.toNat)), (2, .int (jI x2)), (3, .int (jI x3)), (4, .int (jI x4)), (5, .int (jI x5))]) (h : v_4_makeRound_95 R17 Q x1 x2 x3 x4 x5 y0 u) : W p l e R s m args below meth c H locs 0 0 Qf (F0 m 95 ls [.int (jI y0)]) := by
  have hx := X.1.1
  have hb := X.1.2.1
  unfold v_4_makeRound_95 at h
  refine lv_istore hx hb dX4_makeRound_95 hl (by decide) rfl (fun ls hl => ?_)
  have hl : lv_has ls 9 [(7, .int (jI y0)), (0, .ref (ad 0 3)), (1, .ref (ad 4 x1.toNat)), (2, .int (jI x2)), (3, .int (jI x3)), (4, .int (jI x4)), (5, .int (jI x5))] := hl
  exact f_4_makeRound_97 X hRf hRl hret hR17 rx1 rx2 rx3 rx4 rx5 ry0 hw (lv_sub hl [1, 2, 3, 4, 5, 6, 0] rfl) h

def v_4_makeRound_17b (R17 : Int → Int → Int → Int → iST → Prop) (Q : iST → Prop) (x1 : Int) (x2 : Int) (x3 : Int) (x4 : Int) (u : iST) : Prop :=
  br (1000000 ≤ x4) (
    v_4_makeRound_250 Q x1 x2 u) (
    rd (u.2.1 46 x1) (fun v6 => 
    br (v6 ≤ x3) (
      v_4_makeRound_250 Q x1 x2 u) (
      bd x3 30 (rd (u.2.1 49 (30 * x1 + x3)) (fun v7 => 
      v_4_rowOfOthers x1 x3 (fun v8 u => 
      rd (u.1 32) (fun v9 => 
      br (v9 ≠ 0) (
        v_4_makeRound_97 R17 Q x1 x2 x3 x4 v7 (-1) u) (
        rz (u.1 16) (fun v23 => 
        br (v23 = 0) (
          v_6_rewritten v7 1 v8 (fun v24 u => 
          v_4_makeRound_95 R17 Q x1 x2 x3 x4 v7 v24 u) u) (
          v_6_recalled v7 1 v8 (fun v25 u => 
          v_4_makeRound_95 R17 Q x1 x2 x3 x4 v7 v25 u) u))))) u)))))
def v_4_makeRound_17 (Q : iST → Prop) (x1 : Int) (x2 : Int) (x3 : Int) (x4 : Int) (u : iST) : Prop := ∀ R17 : Int → Int → Int → Int → iST → Prop, (∀ (x1 : Int) (x2 : Int) (x3 : Int) (x4 : Int) (u : iST), v_4_makeRound_17b R17 Q x1 x2 x3 x4 u → R17 x1 x2 x3 x4 u) → R17 x1 x2 x3 x4 u
set_option maxRecDepth 20000 in
set_option maxHeartbeats 4000000 in
theorem f_4_makeRound_17 (X : yX RX4 p m c cX4_makeRound 9 s args D ca ad A) (hRf : 10 ≤ R.frames) (hRl : 303 ≤ R.locals) {Q : iST → Prop} (hret : ∀ (u : iST) (H : Heap) (locs : List Loc) (ls : Array Slot) (pc : Nat), Q u → yW D ca A ad s H locs u → decode cX4_makeRound pc = .ok (.return_, 1) → W p l e R s m args below meth c H locs 0 0 Qf (F0 m pc ls [])) {x1 x2 x3 x4 : Int} (rx1 : (0 ≤ x1 ∧ x1 < 408)) (rx2 : inR x2) (rx3 : inR x3) (rx4 : inR x4) (hw : yW D ca A ad s H locs u) (hl : lv_has ls 9 [(0, .ref (ad 0 3)), (1, .ref (ad 4 x1.toNat)), (2, .int (jI x2)), (3, .int (jI x3)), (4, .int (jI x4))]) (h : v_4_makeRound_17 Q x1 x2 x3 x4 u) : W p l e R s m args below meth c H locs 0 0 Qf (F0 m 17 ls []) := by
  refine h (fun x1 x2 x3 x4 u => ∀ (H : Heap) (locs : List Loc) (ls : Array Slot), (0 ≤ x1 ∧ x1 < 408) → inR x2 → inR x3 → inR x4 → yW D ca A ad s H locs u → lv_has ls 9 [(0, .ref (ad 0 3)), (1, .ref (ad 4 x1.toNat)), (2, .int (jI x2)), (3, .int (jI x3)), (4, .int (jI x4))] → W p l e R s m args below meth c H locs 0 0 Qf (F0 m 17 ls [])) ?_ H locs ls rx1 rx2 rx3 rx4 hw hl
  clear h hl hw rx1 rx2 rx3 rx4
  intro x1 x2 x3 x4 u h H locs ls rx1 rx2 rx3 rx4 hw hl
  have hR17 : ∀ (x1 : Int) (x2 : Int) (x3 : Int) (x4 : Int) (u : iST) (H : Heap) (locs : List Loc) (ls : Array Slot), (0 ≤ x1 ∧ x1 < 408) → inR x2 → inR x3 → inR x4 → yW D ca A ad s H locs u → lv_has ls 9 [(0, .ref (ad 0 3)), (1, .ref (ad 4 x1.toNat)), (2, .int (jI x2)), (3, .int (jI x3)), (4, .int (jI x4))] → (fun (x1 : Int) (x2 : Int) (x3 : Int) (x4 : Int) u => ∀ (H : Heap) (locs : List Loc) (ls : Array Slot), (0 ≤ x1 ∧ x1 < 408) → inR x2 → inR x3 → inR x4 → yW D ca A ad s H locs u → lv_has ls 9 [(0, .ref (ad 0 3)), (1, .ref (ad 4 x1.toNat)), (2, .int (jI x2)), (3, .int (jI x3)), (4, .int (jI x4))] → W p l e R s m args below meth c H locs 0 0 Qf (F0 m 17 ls [])) x1 x2 x3 x4 u → W p l e R s m args below meth c H locs 0 0 Qf (F0 m 17 ls []) := fun x1 x2 x3 x4 u H locs ls rx1 rx2 rx3 rx4 hw hl h => h H locs ls rx1 rx2 rx3 rx4 hw hl
  have hx := X.1.1
  have hb := X.1.2.1
  unfold v_4_makeRound_17b at h
  refine lv_iload hx hb dX4_makeRound_17 (lv_at hl 4 rfl) ?_
  refine yld 70 yK_4_70 X dX4_makeRound_19 ?_
  refine k_icmp_ge hx hb rx4 (by decide) dX4_makeRound_21 (tgt := 250) rfl h (fun h => ?_) (fun h => ?_)
  · exact f_4_makeRound_250 X hRf hRl hret rx1 rx2 hw (lv_sub hl [0, 1, 2] rfl) h
  · refine lv_iload_n hx hb dX4_makeRound_24 rfl (lv_at hl 3 rfl) ?_
    refine lv_aload_n hx hb dX4_makeRound_25 rfl (lv_at hl 1 rfl) ?_
    refine yg_4_84 X hw dX4_makeRound_26 rx1 h (fun v6 rv6 h => ?_)
    refine k_icmp_ge hx hb rx3 rv6 dX4_makeRound_29 (tgt := 250) rfl h (fun h => ?_) (fun h => ?_)
    · exact f_4_makeRound_250 X hRf hRl hret rx1 rx2 hw (lv_sub hl [0, 1, 2] rfl) h
    · refine lv_aload_n hx hb dX4_makeRound_32 rfl (lv_at hl 1 rfl) ?_
      refine yg_4_87 X hw dX4_makeRound_33 rx1 ?_
      refine lv_iload_n hx hb dX4_makeRound_36 rfl (lv_at hl 3 rfl) ?_
      refine yfl_lits X hw rx1 rx3 dX4_makeRound_37 h (fun v7 rv7 h => ?_)
      refine lv_istore hx hb dX4_makeRound_38 hl (by decide) rfl (fun ls hl => ?_)
      have hl : lv_has ls 9 [(5, .int (jI v7)), (0, .ref (ad 0 3)), (1, .ref (ad 4 x1.toNat)), (2, .int (jI x2)), (3, .int (jI x3)), (4, .int (jI x4))] := hl
      refine lv_aload_n hx hb dX4_makeRound_40 rfl (lv_at hl 1 rfl) ?_
      refine lv_aload_n hx hb dX4_makeRound_41 rfl (lv_at hl 2 rfl) ?_
      refine lv_iload_n hx hb dX4_makeRound_42 rfl (lv_at hl 4 rfl) ?_
      refine ycI (n := 2) (e_4_rowOfOthers rx1 rx3 h) 4 3 (r := (RX4, TX4, 11)) rfl yG_4_101 yD_4_rowOfOthers X hw rfl yGo_4 (Nat.le_trans (Nat.le_of_ble_eq_true rfl) hRf) (Nat.le_trans (Nat.le_of_ble_eq_true rfl) hRl) rfl hl.1 (Nat.le_of_ble_eq_true rfl) rfl dX4_makeRound_43 (fun v8 u H locs rv8 h hw => ?_)
      refine lv_istore hx hb dX4_makeRound_46 hl (by decide) rfl (fun ls hl => ?_)
      have hl : lv_has ls 9 [(6, .int (jI v8)), (5, .int (jI v7)), (0, .ref (ad 0 3)), (1, .ref (ad 4 x1.toNat)), (2, .int (jI x2)), (3, .int (jI x3)), (4, .int (jI x4))] := hl
      refine lv_iconst hx hb dX4_makeRound_48 (v := jI (-1)) rfl ?_
      refine lv_istore hx hb dX4_makeRound_49 hl (by decide) rfl (fun ls hl => ?_)
      have hl : lv_has ls 9 [(7, .int (jI (-1))), (6, .int (jI v8)), (5, .int (jI v7)), (0, .ref (ad 0 3)), (1, .ref (ad 4 x1.toNat)), (2, .int (jI x2)), (3, .int (jI x3)), (4, .int (jI x4))] := hl
      refine lv_aload_n hx hb dX4_makeRound_51 rfl (lv_at hl 3 rfl) ?_
      refine yg_4_42 X hw dX4_makeRound_52 ?_
      refine yg_4_63 X hw dX4_makeRound_55 h (fun v9 rv9 h => ?_)
      refine k_if_ne hx hb rv9 dX4_makeRound_58 (tgt := 97) rfl h (fun h => ?_) (fun h => ?_)
      · exact f_4_makeRound_97 X hRf hRl hret hR17 rx1 rx2 rx3 rx4 rv7 (by decide) hw (lv_sub hl [3, 4, 5, 6, 7, 2, 0] rfl) h
      · refine lv_aload_n hx hb dX4_makeRound_61 rfl (lv_at hl 3 rfl) ?_
        refine yg_4_38 X hw dX4_makeRound_62 h (fun v23 rv23 h => ?_)
        refine k_if_eq hx hb (bz_in rv23) dX4_makeRound_65 (tgt := 83) rfl h (fun h => ?_) (fun h => ?_)
        · refine lv_aload_n hx hb dX4_makeRound_83 rfl (lv_at hl 3 rfl) ?_
          refine yg_4_50 X hw dX4_makeRound_84 ?_
          refine lv_iload hx hb dX4_makeRound_87 (lv_at hl 2 rfl) ?_
          refine lv_iconst hx hb dX4_makeRound_89 (v := jI 1) rfl ?_
          refine lv_iload hx hb dX4_makeRound_90 (lv_at hl 1 rfl) ?_
          refine ycI (n := 3) (e_6_rewritten rv7 (by decide) rv8 h) 6 5 (r := (RX6, TX6, 14)) rfl yG_4_111 yD_6_rewritten X hw rfl yGo_6 (Nat.le_trans (Nat.le_of_ble_eq_true rfl) hRf) (Nat.le_trans (Nat.le_of_ble_eq_true rfl) hRl) rfl hl.1 (Nat.le_of_ble_eq_true rfl) rfl dX4_makeRound_92 (fun v24 u H locs rv24 h hw => ?_)
          exact f_4_makeRound_95 X hRf hRl hret hR17 rx1 rx2 rx3 rx4 rv7 rv24 hw (lv_sub hl [3, 4, 5, 6, 7, 2] rfl) h
        · refine lv_aload_n hx hb dX4_makeRound_68 rfl (lv_at hl 3 rfl) ?_
          refine yg_4_50 X hw dX4_makeRound_69 ?_
          refine lv_iload hx hb dX4_makeRound_72 (lv_at hl 2 rfl) ?_
          refine lv_iconst hx hb dX4_makeRound_74 (v := jI 1) rfl ?_
          refine lv_iload hx hb dX4_makeRound_75 (lv_at hl 1 rfl) ?_
          refine ycI (n := 3) (e_6_recalled rv7 (by decide) rv8 h) 6 5 (r := (RX6, TX6, 14)) rfl yG_4_105 yD_6_recalled X hw rfl yGo_6 (Nat.le_trans (Nat.le_of_ble_eq_true rfl) hRf) (Nat.le_trans (Nat.le_of_ble_eq_true rfl) hRl) rfl hl.1 (Nat.le_of_ble_eq_true rfl) rfl dX4_makeRound_77 (fun v25 u H locs rv25 h hw => ?_)
          refine lv_goto hx hb dX4_makeRound_80 (tgt := 95) rfl ?_
          exact f_4_makeRound_95 X hRf hRl hret hR17 rx1 rx2 rx3 rx4 rv7 rv25 hw (lv_sub hl [3, 4, 5, 6, 7, 2] rfl) h

def v_4_makeRound (a0 : Int) (Q : iST → Prop) (u : iST) : Prop :=
  rd (u.2.1 48 a0) (fun v1 => 
  ov (v1 + 1) (
  sw (iA u 48 a0 (v1 + 1)) (fun u => 
  v_4_makeRound_17 Q a0 0 0 0 u)))
set_option maxRecDepth 20000 in
set_option maxHeartbeats 4000000 in
theorem f_4_makeRound_s (X : yX RX4 p m c cX4_makeRound 9 s args D ca ad A) (hRf : 10 ≤ R.frames) (hRl : 303 ≤ R.locals) {Q : iST → Prop} (hret : ∀ (u : iST) (H : Heap) (locs : List Loc) (ls : Array Slot) (pc : Nat), Q u → yW D ca A ad s H locs u → decode cX4_makeRound pc = .ok (.return_, 1) → W p l e R s m args below meth c H locs 0 0 Qf (F0 m pc ls [])) {a0 : Int} (ra0 : (0 ≤ a0 ∧ a0 < 408)) (hw : yW D ca A ad s H locs u) (hl : lv_has ls 9 [(0, .ref (ad 0 3)), (1, .ref (ad 4 a0.toNat))]) (h : v_4_makeRound a0 Q u) : W p l e R s m args below meth c H locs 0 0 Qf (F0 m 0 ls []) := by
  have hx := X.1.1
  have hb := X.1.2.1
  unfold v_4_makeRound at h
  refine lv_iconst hx hb dX4_makeRound_0 (v := jI 0) rfl ?_
  refine lv_istore_n hx hb dX4_makeRound_1 rfl hl (by decide) rfl (fun ls hl => ?_)
  have hl : lv_has ls 9 [(2, .int (jI 0)), (0, .ref (ad 0 3)), (1, .ref (ad 4 a0.toNat))] := hl
  refine lv_aload_n hx hb dX4_makeRound_2 rfl (lv_at hl 2 rfl) ?_
  refine lv_dup hx hb dX4_makeRound_3 rfl ?_
  refine yg_4_75 X hw dX4_makeRound_4 ra0 h (fun v1 rv1 h => ?_)
  refine lv_iconst hx hb dX4_makeRound_7 (v := jI 1) rfl ?_
  refine k_iadd hx hb dX4_makeRound_8 h (fun r2 h => ?_)
  refine yp_4_75 X hw r2 dX4_makeRound_9 ra0 h (fun H locs u hw h => ?_)
  refine lv_iconst hx hb dX4_makeRound_12 (v := jI 0) rfl ?_
  refine lv_istore_n hx hb dX4_makeRound_13 rfl hl (by decide) rfl (fun ls hl => ?_)
  have hl : lv_has ls 9 [(3, .int (jI 0)), (2, .int (jI 0)), (0, .ref (ad 0 3)), (1, .ref (ad 4 a0.toNat))] := hl
  refine lv_iconst hx hb dX4_makeRound_14 (v := jI 0) rfl ?_
  refine lv_istore hx hb dX4_makeRound_15 hl (by decide) rfl (fun ls hl => ?_)
  have hl : lv_has ls 9 [(4, .int (jI 0)), (3, .int (jI 0)), (2, .int (jI 0)), (0, .ref (ad 0 3)), (1, .ref (ad 4 a0.toNat))] := hl
  exact f_4_makeRound_17 X hRf hRl hret ra0 (by decide) (by decide) (by decide) hw (lv_sub hl [3, 4, 2, 1, 0] rfl) h

end
theorem e_4_makeRound {l : Launch} {a0 : Int} (ra0 : (0 ≤ a0 ∧ a0 < 408)) {Q : iST → Prop} {u : iST} (h : v_4_makeRound a0 Q u) : yMV l yX4_makeRound (.code yX4_makeRound cX4_makeRound 9 none :: wsN) { frames := 10, cells := 0, slots := 0, locals := 303 } (fun ad => [.ref (ad 0 3), .ref (ad 4 a0.toNat)]) Q u := yMV_of (own := RX4) rfl (by decide +kernel) (fun _ => Nat.le_of_ble_eq_true rfl) (fun X hRf hRl hret hw hl => f_4_makeRound_s X hRf hRl hret ra0 hw hl h)

/-! ProofHouse$Prover.prove -/
theorem dX4_prove_0 : decode cX4_prove 0 = .ok (.aload_n 0, 1) := by decide +kernel
theorem dX4_prove_1 : decode cX4_prove 1 = .ok (.iload_n 1, 1) := by decide +kernel
theorem dX4_prove_2 : decode cX4_prove 2 = .ok (.putfield 38, 3) := by decide +kernel
theorem dX4_prove_5 : decode cX4_prove 5 = .ok (.aload_n 0, 1) := by decide +kernel
theorem dX4_prove_6 : decode cX4_prove 6 = .ok (.iconst 0, 1) := by decide +kernel
theorem dX4_prove_7 : decode cX4_prove 7 = .ok (.putfield 30, 3) := by decide +kernel
theorem dX4_prove_10 : decode cX4_prove 10 = .ok (.iconst 0, 1) := by decide +kernel
theorem dX4_prove_11 : decode cX4_prove 11 = .ok (.istore_n 2, 1) := by decide +kernel
theorem dX4_prove_12 : decode cX4_prove 12 = .ok (.iload_n 2, 1) := by decide +kernel
theorem dX4_prove_13 : decode cX4_prove 13 = .ok (.aload_n 0, 1) := by decide +kernel
theorem dX4_prove_14 : decode cX4_prove 14 = .ok (.getfield 17, 3) := by decide +kernel
theorem dX4_prove_17 : decode cX4_prove 17 = .ok (.if_icmp .ge 148, 3) := by decide +kernel
theorem dX4_prove_20 : decode cX4_prove 20 = .ok (.aload_n 0, 1) := by decide +kernel
theorem dX4_prove_21 : decode cX4_prove 21 = .ok (.getfield 30, 3) := by decide +kernel
theorem dX4_prove_24 : decode cX4_prove 24 = .ok (.bipush 20, 2) := by decide +kernel
theorem dX4_prove_26 : decode cX4_prove 26 = .ok (.if_icmp .ge 139, 3) := by decide +kernel
theorem dX4_prove_29 : decode cX4_prove 29 = .ok (.aload_n 0, 1) := by decide +kernel
theorem dX4_prove_30 : decode cX4_prove 30 = .ok (.getfield 42, 3) := by decide +kernel
theorem dX4_prove_33 : decode cX4_prove 33 = .ok (.getfield 63, 3) := by decide +kernel
theorem dX4_prove_36 : decode cX4_prove 36 = .ok (.ifCond .ne 129, 3) := by decide +kernel
theorem dX4_prove_39 : decode cX4_prove 39 = .ok (.aload_n 0, 1) := by decide +kernel
theorem dX4_prove_40 : decode cX4_prove 40 = .ok (.getfield 21, 3) := by decide +kernel
theorem dX4_prove_43 : decode cX4_prove 43 = .ok (.iconst 0, 1) := by decide +kernel
theorem dX4_prove_44 : decode cX4_prove 44 = .ok (.aaload, 1) := by decide +kernel
theorem dX4_prove_45 : decode cX4_prove 45 = .ok (.aload_n 0, 1) := by decide +kernel
theorem dX4_prove_46 : decode cX4_prove 46 = .ok (.getfield 13, 3) := by decide +kernel
theorem dX4_prove_49 : decode cX4_prove 49 = .ok (.iload_n 2, 1) := by decide +kernel
theorem dX4_prove_50 : decode cX4_prove 50 = .ok (.aaload, 1) := by decide +kernel
theorem dX4_prove_51 : decode cX4_prove 51 = .ok (.invokevirtual 66, 3) := by decide +kernel
theorem dX4_prove_54 : decode cX4_prove 54 = .ok (.aload_n 0, 1) := by decide +kernel
theorem dX4_prove_55 : decode cX4_prove 55 = .ok (.iconst 1, 1) := by decide +kernel
theorem dX4_prove_56 : decode cX4_prove 56 = .ok (.putfield 24, 3) := by decide +kernel
theorem dX4_prove_59 : decode cX4_prove 59 = .ok (.iconst 0, 1) := by decide +kernel
theorem dX4_prove_60 : decode cX4_prove 60 = .ok (.istore_n 3, 1) := by decide +kernel
theorem dX4_prove_61 : decode cX4_prove 61 = .ok (.iload_n 3, 1) := by decide +kernel
theorem dX4_prove_62 : decode cX4_prove 62 = .ok (.ldc 70, 2) := by decide +kernel
theorem dX4_prove_64 : decode cX4_prove 64 = .ok (.if_icmp .ge 95, 3) := by decide +kernel
theorem dX4_prove_67 : decode cX4_prove 67 = .ok (.aload_n 0, 1) := by decide +kernel
theorem dX4_prove_68 : decode cX4_prove 68 = .ok (.getfield 24, 3) := by decide +kernel
theorem dX4_prove_71 : decode cX4_prove 71 = .ok (.ifCond .le 88, 3) := by decide +kernel
theorem dX4_prove_74 : decode cX4_prove 74 = .ok (.aload_n 0, 1) := by decide +kernel
theorem dX4_prove_75 : decode cX4_prove 75 = .ok (.getfield 30, 3) := by decide +kernel
theorem dX4_prove_78 : decode cX4_prove 78 = .ok (.bipush 20, 2) := by decide +kernel
theorem dX4_prove_80 : decode cX4_prove 80 = .ok (.if_icmp .ge 79, 3) := by decide +kernel
theorem dX4_prove_83 : decode cX4_prove 83 = .ok (.aload_n 0, 1) := by decide +kernel
theorem dX4_prove_84 : decode cX4_prove 84 = .ok (.getfield 42, 3) := by decide +kernel
theorem dX4_prove_87 : decode cX4_prove 87 = .ok (.getfield 63, 3) := by decide +kernel
theorem dX4_prove_90 : decode cX4_prove 90 = .ok (.ifCond .ne 69, 3) := by decide +kernel
theorem dX4_prove_93 : decode cX4_prove 93 = .ok (.aload_n 0, 1) := by decide +kernel
theorem dX4_prove_94 : decode cX4_prove 94 = .ok (.getfield 21, 3) := by decide +kernel
theorem dX4_prove_97 : decode cX4_prove 97 = .ok (.aload_n 0, 1) := by decide +kernel
theorem dX4_prove_98 : decode cX4_prove 98 = .ok (.getfield 24, 3) := by decide +kernel
theorem dX4_prove_101 : decode cX4_prove 101 = .ok (.iconst 1, 1) := by decide +kernel
theorem dX4_prove_102 : decode cX4_prove 102 = .ok (.isub, 1) := by decide +kernel
theorem dX4_prove_103 : decode cX4_prove 103 = .ok (.aaload, 1) := by decide +kernel
theorem dX4_prove_104 : decode cX4_prove 104 = .ok (.astore 4, 2) := by decide +kernel
theorem dX4_prove_106 : decode cX4_prove 106 = .ok (.aload_n 0, 1) := by decide +kernel
theorem dX4_prove_107 : decode cX4_prove 107 = .ok (.aload 4, 2) := by decide +kernel
theorem dX4_prove_109 : decode cX4_prove 109 = .ok (.invokevirtual 71, 3) := by decide +kernel
theorem dX4_prove_112 : decode cX4_prove 112 = .ok (.ifCond .eq 16, 3) := by decide +kernel
theorem dX4_prove_115 : decode cX4_prove 115 = .ok (.aload_n 0, 1) := by decide +kernel
theorem dX4_prove_116 : decode cX4_prove 116 = .ok (.dup, 1) := by decide +kernel
theorem dX4_prove_117 : decode cX4_prove 117 = .ok (.getfield 24, 3) := by decide +kernel
theorem dX4_prove_120 : decode cX4_prove 120 = .ok (.iconst 1, 1) := by decide +kernel
theorem dX4_prove_121 : decode cX4_prove 121 = .ok (.isub, 1) := by decide +kernel
theorem dX4_prove_122 : decode cX4_prove 122 = .ok (.putfield 24, 3) := by decide +kernel
theorem dX4_prove_125 : decode cX4_prove 125 = .ok (.goto 28, 3) := by decide +kernel
theorem dX4_prove_128 : decode cX4_prove 128 = .ok (.aload 4, 2) := by decide +kernel
theorem dX4_prove_130 : decode cX4_prove 130 = .ok (.getfield 75, 3) := by decide +kernel
theorem dX4_prove_133 : decode cX4_prove 133 = .ok (.bipush 6, 2) := by decide +kernel
theorem dX4_prove_135 : decode cX4_prove 135 = .ok (.if_icmp .lt 12, 3) := by decide +kernel
theorem dX4_prove_138 : decode cX4_prove 138 = .ok (.aload_n 0, 1) := by decide +kernel
theorem dX4_prove_139 : decode cX4_prove 139 = .ok (.aload 4, 2) := by decide +kernel
theorem dX4_prove_141 : decode cX4_prove 141 = .ok (.invokevirtual 78, 3) := by decide +kernel
theorem dX4_prove_144 : decode cX4_prove 144 = .ok (.goto 9, 3) := by decide +kernel
theorem dX4_prove_147 : decode cX4_prove 147 = .ok (.aload_n 0, 1) := by decide +kernel
theorem dX4_prove_148 : decode cX4_prove 148 = .ok (.aload 4, 2) := by decide +kernel
theorem dX4_prove_150 : decode cX4_prove 150 = .ok (.invokevirtual 81, 3) := by decide +kernel
theorem dX4_prove_153 : decode cX4_prove 153 = .ok (.iinc 3 1, 3) := by decide +kernel
theorem dX4_prove_156 : decode cX4_prove 156 = .ok (.goto (-95), 3) := by decide +kernel
theorem dX4_prove_159 : decode cX4_prove 159 = .ok (.iinc 2 1, 3) := by decide +kernel
theorem dX4_prove_162 : decode cX4_prove 162 = .ok (.goto (-150), 3) := by decide +kernel
theorem dX4_prove_165 : decode cX4_prove 165 = .ok (.return_, 1) := by decide +kernel

section
variable {p : Program} {l : Launch} {e : Env} {R : Room} {s : State} {m : MethodId} {args : Array Value} {below : List Frame} {meth : Method} {c : Code} {H : Heap} {locs : List Loc} {Qf : State → Prop}
variable {ls : Array Slot} {D : va_G} {ca : Nat → ClassId} {A : Nat → Prop} {ad : Nat → Nat → Nat} {u : iST}
def v_4_prove_61b (R12 : Int → iST → Prop) (R61 : Int → Int → iST → Prop) (Q : iST → Prop) (x2 : Int) (x3 : Int) (u : iST) : Prop :=
  br (1000000 ≤ x3) (
    ov (x2 + 1) (
    R12 (x2 + 1) u)) (
    rd (u.1 14) (fun v10 => 
    br (v10 ≤ 0) (
      ov (x2 + 1) (
      R12 (x2 + 1) u)) (
      rd (u.1 15) (fun v12 => 
      br (20 ≤ v12) (
        ov (x2 + 1) (
        R12 (x2 + 1) u)) (
        rd (u.1 32) (fun v14 => 
        br (v14 ≠ 0) (
          ov (x2 + 1) (
          R12 (x2 + 1) u)) (
          rd (u.1 14) (fun v16 => 
          ov (v16 - 1) (
          bd (v16 - 1) 10 (
          v_4_isPlain (120 + (v16 - 1)) (fun v20 u => 
          br (v20 = 0) (
            rd (u.2.1 48 (120 + (v16 - 1))) (fun v21 => 
            br (v21 < 6) (
              v_4_makeRound (120 + (v16 - 1)) (fun u => 
              ov (x3 + 1) (
              R61 x2 (x3 + 1) u)) u) (
              v_4_leave (120 + (v16 - 1)) (fun u => 
              ov (x3 + 1) (
              R61 x2 (x3 + 1) u)) u))) (
            rd (u.1 14) (fun v26 => 
            ov (v26 - 1) (
            sw (iI u 14 (v26 - 1)) (fun u => 
            ov (x3 + 1) (
            R61 x2 (x3 + 1) u)))))) u))))))))))
def v_4_prove_61 (R12 : Int → iST → Prop) (Q : iST → Prop) (x2 : Int) (x3 : Int) (u : iST) : Prop := ∀ R61 : Int → Int → iST → Prop, (∀ (x2 : Int) (x3 : Int) (u : iST), v_4_prove_61b R12 R61 Q x2 x3 u → R61 x2 x3 u) → R61 x2 x3 u
set_option maxRecDepth 20000 in
set_option maxHeartbeats 4000000 in
theorem f_4_prove_61 (X : yX RX4 p m c cX4_prove 5 s args D ca ad A) (hRf : 11 ≤ R.frames) (hRl : 331 ≤ R.locals) {Q : iST → Prop} (hret : ∀ (u : iST) (H : Heap) (locs : List Loc) (ls : Array Slot) (pc : Nat), Q u → yW D ca A ad s H locs u → decode cX4_prove pc = .ok (.return_, 1) → W p l e R s m args below meth c H locs 0 0 Qf (F0 m pc ls [])) {R12 : Int → iST → Prop} (hR12 : ∀ (x2 : Int) (u : iST) (H : Heap) (locs : List Loc) (ls : Array Slot), inR x2 → yW D ca A ad s H locs u → lv_has ls 5 [(0, .ref (ad 0 3)), (2, .int (jI x2))] → R12 x2 u → W p l e R s m args below meth c H locs 0 0 Qf (F0 m 12 ls [])) {x2 x3 : Int} (rx2 : inR x2) (rx3 : inR x3) (hw : yW D ca A ad s H locs u) (hl : lv_has ls 5 [(0, .ref (ad 0 3)), (2, .int (jI x2)), (3, .int (jI x3))]) (h : v_4_prove_61 R12 Q x2 x3 u) : W p l e R s m args below meth c H locs 0 0 Qf (F0 m 61 ls []) := by
  refine h (fun x2 x3 u => ∀ (H : Heap) (locs : List Loc) (ls : Array Slot), inR x2 → inR x3 → yW D ca A ad s H locs u → lv_has ls 5 [(0, .ref (ad 0 3)), (2, .int (jI x2)), (3, .int (jI x3))] → W p l e R s m args below meth c H locs 0 0 Qf (F0 m 61 ls [])) ?_ H locs ls rx2 rx3 hw hl
  clear h hl hw rx2 rx3
  intro x2 x3 u h H locs ls rx2 rx3 hw hl
  have hR61 : ∀ (x2 : Int) (x3 : Int) (u : iST) (H : Heap) (locs : List Loc) (ls : Array Slot), inR x2 → inR x3 → yW D ca A ad s H locs u → lv_has ls 5 [(0, .ref (ad 0 3)), (2, .int (jI x2)), (3, .int (jI x3))] → (fun (x2 : Int) (x3 : Int) u => ∀ (H : Heap) (locs : List Loc) (ls : Array Slot), inR x2 → inR x3 → yW D ca A ad s H locs u → lv_has ls 5 [(0, .ref (ad 0 3)), (2, .int (jI x2)), (3, .int (jI x3))] → W p l e R s m args below meth c H locs 0 0 Qf (F0 m 61 ls [])) x2 x3 u → W p l e R s m args below meth c H locs 0 0 Qf (F0 m 61 ls []) := fun x2 x3 u H locs ls rx2 rx3 hw hl h => h H locs ls rx2 rx3 hw hl
  have hx := X.1.1
  have hb := X.1.2.1
  unfold v_4_prove_61b at h
  refine lv_iload_n hx hb dX4_prove_61 rfl (lv_at hl 2 rfl) ?_
  refine yld 70 yK_4_70 X dX4_prove_62 ?_
  refine k_icmp_ge hx hb rx3 (by decide) dX4_prove_64 (tgt := 159) rfl h (fun h => ?_) (fun h => ?_)
  · refine k_iinc (k := 1) hx hb dX4_prove_159 hl rfl (by decide) rfl h (fun ls r9 h hl => ?_)
    have hl : lv_has ls 5 [(2, .int (jI (x2 + 1))), (0, .ref (ad 0 3)), (3, .int (jI x3))] := hl
    refine lv_goto hx hb dX4_prove_162 (tgt := 12) rfl ?_
    exact hR12 _ _ H locs ls r9 hw (lv_sub hl [1, 0] rfl) h
  · refine lv_aload_n hx hb dX4_prove_67 rfl (lv_at hl 0 rfl) ?_
    refine yg_4_24 X hw dX4_prove_68 h (fun v10 rv10 h => ?_)
    refine k_if_le hx hb rv10 dX4_prove_71 (tgt := 159) rfl h (fun h => ?_) (fun h => ?_)
    · refine k_iinc (k := 1) hx hb dX4_prove_159 hl rfl (by decide) rfl h (fun ls r11 h hl => ?_)
      have hl : lv_has ls 5 [(2, .int (jI (x2 + 1))), (0, .ref (ad 0 3)), (3, .int (jI x3))] := hl
      refine lv_goto hx hb dX4_prove_162 (tgt := 12) rfl ?_
      exact hR12 _ _ H locs ls r11 hw (lv_sub hl [1, 0] rfl) h
    · refine lv_aload_n hx hb dX4_prove_74 rfl (lv_at hl 0 rfl) ?_
      refine yg_4_30 X hw dX4_prove_75 h (fun v12 rv12 h => ?_)
      refine lv_bipush hx hb dX4_prove_78 (v := jI 20) rfl ?_
      refine k_icmp_ge hx hb rv12 (by decide) dX4_prove_80 (tgt := 159) rfl h (fun h => ?_) (fun h => ?_)
      · refine k_iinc (k := 1) hx hb dX4_prove_159 hl rfl (by decide) rfl h (fun ls r13 h hl => ?_)
        have hl : lv_has ls 5 [(2, .int (jI (x2 + 1))), (0, .ref (ad 0 3)), (3, .int (jI x3))] := hl
        refine lv_goto hx hb dX4_prove_162 (tgt := 12) rfl ?_
        exact hR12 _ _ H locs ls r13 hw (lv_sub hl [1, 0] rfl) h
      · refine lv_aload_n hx hb dX4_prove_83 rfl (lv_at hl 0 rfl) ?_
        refine yg_4_42 X hw dX4_prove_84 ?_
        refine yg_4_63 X hw dX4_prove_87 h (fun v14 rv14 h => ?_)
        refine k_if_ne hx hb rv14 dX4_prove_90 (tgt := 159) rfl h (fun h => ?_) (fun h => ?_)
        · refine k_iinc (k := 1) hx hb dX4_prove_159 hl rfl (by decide) rfl h (fun ls r15 h hl => ?_)
          have hl : lv_has ls 5 [(2, .int (jI (x2 + 1))), (0, .ref (ad 0 3)), (3, .int (jI x3))] := hl
          refine lv_goto hx hb dX4_prove_162 (tgt := 12) rfl ?_
          exact hR12 _ _ H locs ls r15 hw (lv_sub hl [1, 0] rfl) h
        · refine lv_aload_n hx hb dX4_prove_93 rfl (lv_at hl 0 rfl) ?_
          refine yg_4_21 X hw dX4_prove_94 ?_
          refine lv_aload_n hx hb dX4_prove_97 rfl (lv_at hl 0 rfl) ?_
          refine yg_4_24 X hw dX4_prove_98 h (fun v16 rv16 h => ?_)
          refine lv_iconst hx hb dX4_prove_101 (v := jI 1) rfl ?_
          refine k_isub hx hb dX4_prove_102 h (fun r17 h => ?_)
          have q18 := h
          have r19 : (0 ≤ (120 + (v16 - 1)) ∧ (120 + (v16 - 1)) < 408) := ⟨by have := q18.1; omega, by have := q18.2.1; omega⟩
          refine yx_5 X hw r17 dX4_prove_103 h (fun h => ?_)
          refine lv_astore hx hb dX4_prove_104 hl (by decide) rfl (fun ls hl => ?_)
          have hl : lv_has ls 5 [(4, .ref (ad 4 (120 + (v16 - 1)).toNat)), (0, .ref (ad 0 3)), (2, .int (jI x2)), (3, .int (jI x3))] := hl
          refine lv_aload_n hx hb dX4_prove_106 rfl (lv_at hl 1 rfl) ?_
          refine lv_aload hx hb dX4_prove_107 (lv_at hl 0 rfl) ?_
          refine ycI (n := 1) (e_4_isPlain r19 h) 4 3 (r := (RX4, TX4, 11)) rfl yG_4_71 yD_4_isPlain X hw rfl yGo_4 (Nat.le_trans (Nat.le_of_ble_eq_true rfl) hRf) (Nat.le_trans (Nat.le_of_ble_eq_true rfl) hRl) rfl hl.1 (Nat.le_of_ble_eq_true rfl) rfl dX4_prove_109 (fun v20 u H locs rv20 h hw => ?_)
          refine k_if_eq hx hb rv20 dX4_prove_112 (tgt := 128) rfl h (fun h => ?_) (fun h => ?_)
          · refine lv_aload hx hb dX4_prove_128 (lv_at hl 0 rfl) ?_
            refine yg_4_75 X hw dX4_prove_130 r19 h (fun v21 rv21 h => ?_)
            refine lv_bipush hx hb dX4_prove_133 (v := jI 6) rfl ?_
            refine k_icmp_lt hx hb rv21 (by decide) dX4_prove_135 (tgt := 147) rfl h (fun h => ?_) (fun h => ?_)
            · refine lv_aload_n hx hb dX4_prove_147 rfl (lv_at hl 1 rfl) ?_
              refine lv_aload hx hb dX4_prove_148 (lv_at hl 0 rfl) ?_
              refine ycV (n := 1) (e_4_makeRound r19 h) 4 3 (r := (RX4, TX4, 11)) rfl yG_4_81 yD_4_makeRound X hw rfl yGo_4 (Nat.le_trans (Nat.le_of_ble_eq_true rfl) hRf) (Nat.le_trans (Nat.le_of_ble_eq_true rfl) hRl) rfl hl.1 (Nat.le_of_ble_eq_true rfl) rfl dX4_prove_150 (fun u H locs h hw => ?_)
              refine k_iinc (k := 3) hx hb dX4_prove_153 hl rfl (by decide) rfl h (fun ls r23 h hl => ?_)
              have hl : lv_has ls 5 [(3, .int (jI (x3 + 1))), (4, .ref (ad 4 (120 + (v16 - 1)).toNat)), (0, .ref (ad 0 3)), (2, .int (jI x2))] := hl
              refine lv_goto hx hb dX4_prove_156 (tgt := 61) rfl ?_
              exact hR61 _ _ _ H locs ls rx2 r23 hw (lv_sub hl [2, 3, 0] rfl) h
            · refine lv_aload_n hx hb dX4_prove_138 rfl (lv_at hl 1 rfl) ?_
              refine lv_aload hx hb dX4_prove_139 (lv_at hl 0 rfl) ?_
              refine ycV (n := 1) (e_4_leave r19 h) 4 3 (r := (RX4, TX4, 11)) rfl yG_4_78 yD_4_leave X hw rfl yGo_4 (Nat.le_trans (Nat.le_of_ble_eq_true rfl) hRf) (Nat.le_trans (Nat.le_of_ble_eq_true rfl) hRl) rfl hl.1 (Nat.le_of_ble_eq_true rfl) rfl dX4_prove_141 (fun u H locs h hw => ?_)
              refine lv_goto hx hb dX4_prove_144 (tgt := 153) rfl ?_
              refine k_iinc (k := 3) hx hb dX4_prove_153 hl rfl (by decide) rfl h (fun ls r25 h hl => ?_)
              have hl : lv_has ls 5 [(3, .int (jI (x3 + 1))), (4, .ref (ad 4 (120 + (v16 - 1)).toNat)), (0, .ref (ad 0 3)), (2, .int (jI x2))] := hl
              refine lv_goto hx hb dX4_prove_156 (tgt := 61) rfl ?_
              exact hR61 _ _ _ H locs ls rx2 r25 hw (lv_sub hl [2, 3, 0] rfl) h
          · refine lv_aload_n hx hb dX4_prove_115 rfl (lv_at hl 1 rfl) ?_
            refine lv_dup hx hb dX4_prove_116 rfl ?_
            refine yg_4_24 X hw dX4_prove_117 h (fun v26 rv26 h => ?_)
            refine lv_iconst hx hb dX4_prove_120 (v := jI 1) rfl ?_
            refine k_isub hx hb dX4_prove_121 h (fun r27 h => ?_)
            refine yp_4_24 X hw r27 dX4_prove_122 h (fun H locs u hw h => ?_)
            refine lv_goto hx hb dX4_prove_125 (tgt := 153) rfl ?_
            refine k_iinc (k := 3) hx hb dX4_prove_153 hl rfl (by decide) rfl h (fun ls r28 h hl => ?_)
            have hl : lv_has ls 5 [(3, .int (jI (x3 + 1))), (4, .ref (ad 4 (120 + (v16 - 1)).toNat)), (0, .ref (ad 0 3)), (2, .int (jI x2))] := hl
            refine lv_goto hx hb dX4_prove_156 (tgt := 61) rfl ?_
            exact hR61 _ _ _ H locs ls rx2 r28 hw (lv_sub hl [2, 3, 0] rfl) h

def v_4_prove_12b (R12 : Int → iST → Prop) (Q : iST → Prop) (x2 : Int) (u : iST) : Prop :=
  rd (u.1 13) (fun v1 => 
  br (v1 ≤ x2) (
    Q u) (
    rd (u.1 15) (fun v2 => 
    br (20 ≤ v2) (
      Q u) (
      rd (u.1 32) (fun v3 => 
      br (v3 ≠ 0) (
        Q u) (
        bd 0 10 (
        bd x2 120 (
        v_1_copy (120 + 0) x2 (fun u => 
        sw (iI u 14 1) (fun u => 
        v_4_prove_61 R12 Q x2 0 u)) u))))))))
def v_4_prove_12 (Q : iST → Prop) (x2 : Int) (u : iST) : Prop := ∀ R12 : Int → iST → Prop, (∀ (x2 : Int) (u : iST), v_4_prove_12b R12 Q x2 u → R12 x2 u) → R12 x2 u
set_option maxRecDepth 20000 in
set_option maxHeartbeats 4000000 in
theorem f_4_prove_12 (X : yX RX4 p m c cX4_prove 5 s args D ca ad A) (hRf : 11 ≤ R.frames) (hRl : 331 ≤ R.locals) {Q : iST → Prop} (hret : ∀ (u : iST) (H : Heap) (locs : List Loc) (ls : Array Slot) (pc : Nat), Q u → yW D ca A ad s H locs u → decode cX4_prove pc = .ok (.return_, 1) → W p l e R s m args below meth c H locs 0 0 Qf (F0 m pc ls [])) {x2 : Int} (rx2 : inR x2) (hw : yW D ca A ad s H locs u) (hl : lv_has ls 5 [(0, .ref (ad 0 3)), (2, .int (jI x2))]) (h : v_4_prove_12 Q x2 u) : W p l e R s m args below meth c H locs 0 0 Qf (F0 m 12 ls []) := by
  refine h (fun x2 u => ∀ (H : Heap) (locs : List Loc) (ls : Array Slot), inR x2 → yW D ca A ad s H locs u → lv_has ls 5 [(0, .ref (ad 0 3)), (2, .int (jI x2))] → W p l e R s m args below meth c H locs 0 0 Qf (F0 m 12 ls [])) ?_ H locs ls rx2 hw hl
  clear h hl hw rx2
  intro x2 u h H locs ls rx2 hw hl
  have hR12 : ∀ (x2 : Int) (u : iST) (H : Heap) (locs : List Loc) (ls : Array Slot), inR x2 → yW D ca A ad s H locs u → lv_has ls 5 [(0, .ref (ad 0 3)), (2, .int (jI x2))] → (fun (x2 : Int) u => ∀ (H : Heap) (locs : List Loc) (ls : Array Slot), inR x2 → yW D ca A ad s H locs u → lv_has ls 5 [(0, .ref (ad 0 3)), (2, .int (jI x2))] → W p l e R s m args below meth c H locs 0 0 Qf (F0 m 12 ls [])) x2 u → W p l e R s m args below meth c H locs 0 0 Qf (F0 m 12 ls []) := fun x2 u H locs ls rx2 hw hl h => h H locs ls rx2 hw hl
  have hx := X.1.1
  have hb := X.1.2.1
  unfold v_4_prove_12b at h
  refine lv_iload_n hx hb dX4_prove_12 rfl (lv_at hl 1 rfl) ?_
  refine lv_aload_n hx hb dX4_prove_13 rfl (lv_at hl 0 rfl) ?_
  refine yg_4_17 X hw dX4_prove_14 h (fun v1 rv1 h => ?_)
  refine k_icmp_ge hx hb rx2 rv1 dX4_prove_17 (tgt := 165) rfl h (fun h => ?_) (fun h => ?_)
  · exact hret _ _ _ _ _ h hw dX4_prove_165
  · refine lv_aload_n hx hb dX4_prove_20 rfl (lv_at hl 0 rfl) ?_
    refine yg_4_30 X hw dX4_prove_21 h (fun v2 rv2 h => ?_)
    refine lv_bipush hx hb dX4_prove_24 (v := jI 20) rfl ?_
    refine k_icmp_ge hx hb rv2 (by decide) dX4_prove_26 (tgt := 165) rfl h (fun h => ?_) (fun h => ?_)
    · exact hret _ _ _ _ _ h hw dX4_prove_165
    · refine lv_aload_n hx hb dX4_prove_29 rfl (lv_at hl 0 rfl) ?_
      refine yg_4_42 X hw dX4_prove_30 ?_
      refine yg_4_63 X hw dX4_prove_33 h (fun v3 rv3 h => ?_)
      refine k_if_ne hx hb rv3 dX4_prove_36 (tgt := 165) rfl h (fun h => ?_) (fun h => ?_)
      · exact hret _ _ _ _ _ h hw dX4_prove_165
      · refine lv_aload_n hx hb dX4_prove_39 rfl (lv_at hl 0 rfl) ?_
        refine yg_4_21 X hw dX4_prove_40 ?_
        refine lv_iconst hx hb dX4_prove_43 (v := jI 0) rfl ?_
        have q4 := h
        have r5 : ((0 : Int) ≤ (120 + 0) ∧ ((120 + 0) : Int) < 408) := ⟨by have := q4.1; omega, by have := q4.2.1; omega⟩
        refine yx_5 X hw (by decide) dX4_prove_44 h (fun h => ?_)
        refine lv_aload_n hx hb dX4_prove_45 rfl (lv_at hl 0 rfl) ?_
        refine yg_4_13 X hw dX4_prove_46 ?_
        refine lv_iload_n hx hb dX4_prove_49 rfl (lv_at hl 1 rfl) ?_
        have q6 := h
        have r7 : (0 ≤ x2 ∧ x2 < 408) := ⟨q6.1, by have := q6.2.1; omega⟩
        refine yx_4 X hw rx2 dX4_prove_50 h (fun h => ?_)
        refine ycV (n := 1) (e_1_copy r5 r7 h) 1 (65 + (120 + 0 : Int).toNat) (r := (RX1, TX1, 4)) rfl yG_4_66 yD_1_copy X hw rfl (yGf_clause (toNat_lt r5)) (Nat.le_trans (Nat.le_of_ble_eq_true rfl) hRf) (Nat.le_trans (Nat.le_of_ble_eq_true rfl) hRl) rfl hl.1 (Nat.le_of_ble_eq_true rfl) rfl dX4_prove_51 (fun u H locs h hw => ?_)
        refine lv_aload_n hx hb dX4_prove_54 rfl (lv_at hl 0 rfl) ?_
        refine lv_iconst hx hb dX4_prove_55 (v := jI 1) rfl ?_
        refine yp_4_24 X hw (by decide) dX4_prove_56 h (fun H locs u hw h => ?_)
        refine lv_iconst hx hb dX4_prove_59 (v := jI 0) rfl ?_
        refine lv_istore_n hx hb dX4_prove_60 rfl hl (by decide) rfl (fun ls hl => ?_)
        have hl : lv_has ls 5 [(3, .int (jI 0)), (0, .ref (ad 0 3)), (2, .int (jI x2))] := hl
        exact f_4_prove_61 X hRf hRl hret hR12 rx2 (by decide) hw (lv_sub hl [1, 2, 0] rfl) h

def v_4_prove (a0 : Int) (Q : iST → Prop) (u : iST) : Prop :=
  zt a0 (sw (iI u 16 a0) (fun u => 
  sw (iI u 15 0) (fun u => 
  v_4_prove_12 Q 0 u)))
set_option maxRecDepth 20000 in
set_option maxHeartbeats 4000000 in
theorem f_4_prove_s (X : yX RX4 p m c cX4_prove 5 s args D ca ad A) (hRf : 11 ≤ R.frames) (hRl : 331 ≤ R.locals) {Q : iST → Prop} (hret : ∀ (u : iST) (H : Heap) (locs : List Loc) (ls : Array Slot) (pc : Nat), Q u → yW D ca A ad s H locs u → decode cX4_prove pc = .ok (.return_, 1) → W p l e R s m args below meth c H locs 0 0 Qf (F0 m pc ls [])) {a0 : Int} (ra0 : inR a0) (hw : yW D ca A ad s H locs u) (hl : lv_has ls 5 [(0, .ref (ad 0 3)), (1, .int (jI a0))]) (h : v_4_prove a0 Q u) : W p l e R s m args below meth c H locs 0 0 Qf (F0 m 0 ls []) := by
  have hx := X.1.1
  have hb := X.1.2.1
  unfold v_4_prove at h
  refine lv_aload_n hx hb dX4_prove_0 rfl (lv_at hl 0 rfl) ?_
  refine lv_iload_n hx hb dX4_prove_1 rfl (lv_at hl 1 rfl) ?_
  refine yp_4_38 X hw dX4_prove_2 h (fun H locs u hw h => ?_)
  refine lv_aload_n hx hb dX4_prove_5 rfl (lv_at hl 0 rfl) ?_
  refine lv_iconst hx hb dX4_prove_6 (v := jI 0) rfl ?_
  refine yp_4_30 X hw (by decide) dX4_prove_7 h (fun H locs u hw h => ?_)
  refine lv_iconst hx hb dX4_prove_10 (v := jI 0) rfl ?_
  refine lv_istore_n hx hb dX4_prove_11 rfl hl (by decide) rfl (fun ls hl => ?_)
  have hl : lv_has ls 5 [(2, .int (jI 0)), (0, .ref (ad 0 3)), (1, .int (jI a0))] := hl
  exact f_4_prove_12 X hRf hRl hret (by decide) hw (lv_sub hl [1, 0] rfl) h

end
theorem e_4_prove {l : Launch} {a0 : Int} (ra0 : inR a0) {Q : iST → Prop} {u : iST} (h : v_4_prove a0 Q u) : yMV l yX4_prove (.code yX4_prove cX4_prove 5 none :: wsN) { frames := 11, cells := 0, slots := 0, locals := 331 } (fun ad => [.ref (ad 0 3), .int (jI a0)]) Q u := yMV_of (own := RX4) rfl (by decide +kernel) (fun _ => Nat.le_of_ble_eq_true rfl) (fun X hRf hRl hret hw hl => f_4_prove_s X hRf hRl hret ra0 hw hl h)

/-! ProofHouse$Prover.listOf -/
theorem dX4_listOf_0 : decode cX4_listOf 0 = .ok (.iconst 0, 1) := by decide +kernel
theorem dX4_listOf_1 : decode cX4_listOf 1 = .ok (.istore_n 2, 1) := by decide +kernel
theorem dX4_listOf_2 : decode cX4_listOf 2 = .ok (.aload_n 1, 1) := by decide +kernel
theorem dX4_listOf_3 : decode cX4_listOf 3 = .ok (.getfield 84, 3) := by decide +kernel
theorem dX4_listOf_6 : decode cX4_listOf 6 = .ok (.iconst 1, 1) := by decide +kernel
theorem dX4_listOf_7 : decode cX4_listOf 7 = .ok (.isub, 1) := by decide +kernel
theorem dX4_listOf_8 : decode cX4_listOf 8 = .ok (.istore_n 3, 1) := by decide +kernel
theorem dX4_listOf_9 : decode cX4_listOf 9 = .ok (.iload_n 3, 1) := by decide +kernel
theorem dX4_listOf_10 : decode cX4_listOf 10 = .ok (.ifCond .lt 27, 3) := by decide +kernel
theorem dX4_listOf_13 : decode cX4_listOf 13 = .ok (.aload_n 0, 1) := by decide +kernel
theorem dX4_listOf_14 : decode cX4_listOf 14 = .ok (.getfield 42, 3) := by decide +kernel
theorem dX4_listOf_17 : decode cX4_listOf 17 = .ok (.aload_n 1, 1) := by decide +kernel
theorem dX4_listOf_18 : decode cX4_listOf 18 = .ok (.getfield 87, 3) := by decide +kernel
theorem dX4_listOf_21 : decode cX4_listOf 21 = .ok (.iload_n 3, 1) := by decide +kernel
theorem dX4_listOf_22 : decode cX4_listOf 22 = .ok (.iaload, 1) := by decide +kernel
theorem dX4_listOf_23 : decode cX4_listOf 23 = .ok (.iload_n 2, 1) := by decide +kernel
theorem dX4_listOf_24 : decode cX4_listOf 24 = .ok (.invokestatic 137, 3) := by decide +kernel
theorem dX4_listOf_27 : decode cX4_listOf 27 = .ok (.invokevirtual 141, 3) := by decide +kernel
theorem dX4_listOf_30 : decode cX4_listOf 30 = .ok (.istore_n 2, 1) := by decide +kernel
theorem dX4_listOf_31 : decode cX4_listOf 31 = .ok (.iinc 3 (-1), 3) := by decide +kernel
theorem dX4_listOf_34 : decode cX4_listOf 34 = .ok (.goto (-25), 3) := by decide +kernel
theorem dX4_listOf_37 : decode cX4_listOf 37 = .ok (.iload_n 2, 1) := by decide +kernel
theorem dX4_listOf_38 : decode cX4_listOf 38 = .ok (.ireturn, 1) := by decide +kernel

section
variable {p : Program} {l : Launch} {e : Env} {R : Room} {s : State} {m : MethodId} {args : Array Value} {below : List Frame} {meth : Method} {c : Code} {H : Heap} {locs : List Loc} {Qf : State → Prop}
variable {ls : Array Slot} {D : va_G} {ca : Nat → ClassId} {A : Nat → Prop} {ad : Nat → Nat → Nat} {u : iST}
def v_4_listOf_9b (R9 : Int → Int → Int → iST → Prop) (Q : Int → iST → Prop) (x1 : Int) (x2 : Int) (x3 : Int) (u : iST) : Prop :=
  br (x3 < 0) (
    Q x2 u) (
    bd x3 30 (rd (u.2.1 49 (30 * x1 + x3)) (fun v3 => 
    v_11_pairCell v3 x2 (fun v4 u => 
    v_7_made v4 (fun v5 u => 
    ov (x3 + (-1)) (
    R9 x1 v5 (x3 + (-1)) u)) u) u)))
def v_4_listOf_9 (Q : Int → iST → Prop) (x1 : Int) (x2 : Int) (x3 : Int) (u : iST) : Prop := ∀ R9 : Int → Int → Int → iST → Prop, (∀ (x1 : Int) (x2 : Int) (x3 : Int) (u : iST), v_4_listOf_9b R9 Q x1 x2 x3 u → R9 x1 x2 x3 u) → R9 x1 x2 x3 u
set_option maxRecDepth 20000 in
set_option maxHeartbeats 4000000 in
theorem f_4_listOf_9 (X : yX RX4 p m c cX4_listOf 4 s args D ca ad A) (hRf : 1 ≤ R.frames) (hRl : 30 ≤ R.locals) {Q : Int → iST → Prop} (hret : ∀ (v : Int) (u : iST) (H : Heap) (locs : List Loc) (ls : Array Slot) (pc : Nat), inR v → Q v u → yW D ca A ad s H locs u → decode cX4_listOf pc = .ok (.ireturn, 1) → W p l e R s m args below meth c H locs 0 0 Qf (F0 m pc ls [.int (jI v)])) {x1 x2 x3 : Int} (rx1 : (0 ≤ x1 ∧ x1 < 408)) (rx2 : inR x2) (rx3 : inR x3) (hw : yW D ca A ad s H locs u) (hl : lv_has ls 4 [(0, .ref (ad 0 3)), (1, .ref (ad 4 x1.toNat)), (2, .int (jI x2)), (3, .int (jI x3))]) (h : v_4_listOf_9 Q x1 x2 x3 u) : W p l e R s m args below meth c H locs 0 0 Qf (F0 m 9 ls []) := by
  refine h (fun x1 x2 x3 u => ∀ (H : Heap) (locs : List Loc) (ls : Array Slot), (0 ≤ x1 ∧ x1 < 408) → inR x2 → inR x3 → yW D ca A ad s H locs u → lv_has ls 4 [(0, .ref (ad 0 3)), (1, .ref (ad 4 x1.toNat)), (2, .int (jI x2)), (3, .int (jI x3))] → W p l e R s m args below meth c H locs 0 0 Qf (F0 m 9 ls [])) ?_ H locs ls rx1 rx2 rx3 hw hl
  clear h hl hw rx1 rx2 rx3
  intro x1 x2 x3 u h H locs ls rx1 rx2 rx3 hw hl
  have hR9 : ∀ (x1 : Int) (x2 : Int) (x3 : Int) (u : iST) (H : Heap) (locs : List Loc) (ls : Array Slot), (0 ≤ x1 ∧ x1 < 408) → inR x2 → inR x3 → yW D ca A ad s H locs u → lv_has ls 4 [(0, .ref (ad 0 3)), (1, .ref (ad 4 x1.toNat)), (2, .int (jI x2)), (3, .int (jI x3))] → (fun (x1 : Int) (x2 : Int) (x3 : Int) u => ∀ (H : Heap) (locs : List Loc) (ls : Array Slot), (0 ≤ x1 ∧ x1 < 408) → inR x2 → inR x3 → yW D ca A ad s H locs u → lv_has ls 4 [(0, .ref (ad 0 3)), (1, .ref (ad 4 x1.toNat)), (2, .int (jI x2)), (3, .int (jI x3))] → W p l e R s m args below meth c H locs 0 0 Qf (F0 m 9 ls [])) x1 x2 x3 u → W p l e R s m args below meth c H locs 0 0 Qf (F0 m 9 ls []) := fun x1 x2 x3 u H locs ls rx1 rx2 rx3 hw hl h => h H locs ls rx1 rx2 rx3 hw hl
  have hx := X.1.1
  have hb := X.1.2.1
  unfold v_4_listOf_9b at h
  refine lv_iload_n hx hb dX4_listOf_9 rfl (lv_at hl 3 rfl) ?_
  refine k_if_lt hx hb rx3 dX4_listOf_10 (tgt := 37) rfl h (fun h => ?_) (fun h => ?_)
  · refine lv_iload_n hx hb dX4_listOf_37 rfl (lv_at hl 2 rfl) ?_
    exact hret _ _ _ _ _ _ rx2 h hw dX4_listOf_38
  · refine lv_aload_n hx hb dX4_listOf_13 rfl (lv_at hl 0 rfl) ?_
    refine yg_4_42 X hw dX4_listOf_14 ?_
    refine lv_aload_n hx hb dX4_listOf_17 rfl (lv_at hl 1 rfl) ?_
    refine yg_4_87 X hw dX4_listOf_18 rx1 ?_
    refine lv_iload_n hx hb dX4_listOf_21 rfl (lv_at hl 3 rfl) ?_
    refine yfl_lits X hw rx1 rx3 dX4_listOf_22 h (fun v3 rv3 h => ?_)
    refine lv_iload_n hx hb dX4_listOf_23 rfl (lv_at hl 2 rfl) ?_
    refine ycSN (n := 2) (e_11_pairCell rv3 rx2 h) (host := "ProofHouse") rfl goodPair yD_11_pairCell.2 X hw (yNm_4_137 X.2.2.1) (ysI_in (List.mem_of_getElem? (i := 11) rfl)) statPair (Nat.le_trans (Nat.le_of_ble_eq_true rfl) hRf) (Nat.le_trans (Nat.le_of_ble_eq_true rfl) hRl) rfl hl.1 (Nat.le_of_ble_eq_true rfl) rfl dX4_listOf_24 (fun v4 u H locs rv4 h hw => ?_)
    refine ycI (n := 1) (e_7_made rv4 h) 7 6 (r := (RX7, TX7, 9)) rfl yG_4_141 yD_7_made X hw rfl yGo_7 (Nat.le_trans (Nat.le_of_ble_eq_true rfl) hRf) (Nat.le_trans (Nat.le_of_ble_eq_true rfl) hRl) rfl hl.1 (Nat.le_of_ble_eq_true rfl) rfl dX4_listOf_27 (fun v5 u H locs rv5 h hw => ?_)
    refine lv_istore_n hx hb dX4_listOf_30 rfl hl (by decide) rfl (fun ls hl => ?_)
    have hl : lv_has ls 4 [(2, .int (jI v5)), (0, .ref (ad 0 3)), (1, .ref (ad 4 x1.toNat)), (3, .int (jI x3))] := hl
    refine k_iinc (k := 3) hx hb dX4_listOf_31 hl rfl (by decide) rfl h (fun ls r6 h hl => ?_)
    have hl : lv_has ls 4 [(3, .int (jI (x3 + (-1)))), (2, .int (jI v5)), (0, .ref (ad 0 3)), (1, .ref (ad 4 x1.toNat))] := hl
    refine lv_goto hx hb dX4_listOf_34 (tgt := 9) rfl ?_
    exact hR9 _ _ _ _ H locs ls rx1 rv5 r6 hw (lv_sub hl [2, 3, 1, 0] rfl) h

def v_4_listOf (a0 : Int) (Q : Int → iST → Prop) (u : iST) : Prop :=
  rd (u.2.1 46 a0) (fun v1 => 
  ov (v1 - 1) (
  v_4_listOf_9 Q a0 0 (v1 - 1) u))
set_option maxRecDepth 20000 in
set_option maxHeartbeats 4000000 in
theorem f_4_listOf_s (X : yX RX4 p m c cX4_listOf 4 s args D ca ad A) (hRf : 1 ≤ R.frames) (hRl : 30 ≤ R.locals) {Q : Int → iST → Prop} (hret : ∀ (v : Int) (u : iST) (H : Heap) (locs : List Loc) (ls : Array Slot) (pc : Nat), inR v → Q v u → yW D ca A ad s H locs u → decode cX4_listOf pc = .ok (.ireturn, 1) → W p l e R s m args below meth c H locs 0 0 Qf (F0 m pc ls [.int (jI v)])) {a0 : Int} (ra0 : (0 ≤ a0 ∧ a0 < 408)) (hw : yW D ca A ad s H locs u) (hl : lv_has ls 4 [(0, .ref (ad 0 3)), (1, .ref (ad 4 a0.toNat))]) (h : v_4_listOf a0 Q u) : W p l e R s m args below meth c H locs 0 0 Qf (F0 m 0 ls []) := by
  have hx := X.1.1
  have hb := X.1.2.1
  unfold v_4_listOf at h
  refine lv_iconst hx hb dX4_listOf_0 (v := jI 0) rfl ?_
  refine lv_istore_n hx hb dX4_listOf_1 rfl hl (by decide) rfl (fun ls hl => ?_)
  have hl : lv_has ls 4 [(2, .int (jI 0)), (0, .ref (ad 0 3)), (1, .ref (ad 4 a0.toNat))] := hl
  refine lv_aload_n hx hb dX4_listOf_2 rfl (lv_at hl 2 rfl) ?_
  refine yg_4_84 X hw dX4_listOf_3 ra0 h (fun v1 rv1 h => ?_)
  refine lv_iconst hx hb dX4_listOf_6 (v := jI 1) rfl ?_
  refine k_isub hx hb dX4_listOf_7 h (fun r2 h => ?_)
  refine lv_istore_n hx hb dX4_listOf_8 rfl hl (by decide) rfl (fun ls hl => ?_)
  have hl : lv_has ls 4 [(3, .int (jI (v1 - 1))), (2, .int (jI 0)), (0, .ref (ad 0 3)), (1, .ref (ad 4 a0.toNat))] := hl
  exact f_4_listOf_9 X hRf hRl hret ra0 (by decide) r2 hw (lv_sub hl [2, 3, 1, 0] rfl) h

end
theorem e_4_listOf {l : Launch} {a0 : Int} (ra0 : (0 ≤ a0 ∧ a0 < 408)) {Q : Int → iST → Prop} {u : iST} (h : v_4_listOf a0 Q u) : yMI l yX4_listOf (.code yX4_listOf cX4_listOf 4 (some .int) :: wsN) { frames := 1, cells := 0, slots := 0, locals := 30 } (fun ad => [.ref (ad 0 3), .ref (ad 4 a0.toNat)]) Q u := yMI_of (own := RX4) rfl (by decide +kernel) (fun _ => Nat.le_of_ble_eq_true rfl) (fun X hRf hRl hret hw hl => f_4_listOf_s X hRf hRl hret ra0 hw hl h)

/-! ProofHouse$Prover.listOfLeft -/
theorem dX4_listOfLeft_0 : decode cX4_listOfLeft 0 = .ok (.iconst 0, 1) := by decide +kernel
theorem dX4_listOfLeft_1 : decode cX4_listOfLeft 1 = .ok (.istore_n 1, 1) := by decide +kernel
theorem dX4_listOfLeft_2 : decode cX4_listOfLeft 2 = .ok (.aload_n 0, 1) := by decide +kernel
theorem dX4_listOfLeft_3 : decode cX4_listOfLeft 3 = .ok (.getfield 30, 3) := by decide +kernel
theorem dX4_listOfLeft_6 : decode cX4_listOfLeft 6 = .ok (.iconst 1, 1) := by decide +kernel
theorem dX4_listOfLeft_7 : decode cX4_listOfLeft 7 = .ok (.isub, 1) := by decide +kernel
theorem dX4_listOfLeft_8 : decode cX4_listOfLeft 8 = .ok (.istore_n 2, 1) := by decide +kernel
theorem dX4_listOfLeft_9 : decode cX4_listOfLeft 9 = .ok (.iload_n 2, 1) := by decide +kernel
theorem dX4_listOfLeft_10 : decode cX4_listOfLeft 10 = .ok (.ifCond .lt 31, 3) := by decide +kernel
theorem dX4_listOfLeft_13 : decode cX4_listOfLeft 13 = .ok (.aload_n 0, 1) := by decide +kernel
theorem dX4_listOfLeft_14 : decode cX4_listOfLeft 14 = .ok (.getfield 42, 3) := by decide +kernel
theorem dX4_listOfLeft_17 : decode cX4_listOfLeft 17 = .ok (.aload_n 0, 1) := by decide +kernel
theorem dX4_listOfLeft_18 : decode cX4_listOfLeft 18 = .ok (.aload_n 0, 1) := by decide +kernel
theorem dX4_listOfLeft_19 : decode cX4_listOfLeft 19 = .ok (.getfield 27, 3) := by decide +kernel
theorem dX4_listOfLeft_22 : decode cX4_listOfLeft 22 = .ok (.iload_n 2, 1) := by decide +kernel
theorem dX4_listOfLeft_23 : decode cX4_listOfLeft 23 = .ok (.aaload, 1) := by decide +kernel
theorem dX4_listOfLeft_24 : decode cX4_listOfLeft 24 = .ok (.invokevirtual 167, 3) := by decide +kernel
theorem dX4_listOfLeft_27 : decode cX4_listOfLeft 27 = .ok (.iload_n 1, 1) := by decide +kernel
theorem dX4_listOfLeft_28 : decode cX4_listOfLeft 28 = .ok (.invokestatic 137, 3) := by decide +kernel
theorem dX4_listOfLeft_31 : decode cX4_listOfLeft 31 = .ok (.invokevirtual 141, 3) := by decide +kernel
theorem dX4_listOfLeft_34 : decode cX4_listOfLeft 34 = .ok (.istore_n 1, 1) := by decide +kernel
theorem dX4_listOfLeft_35 : decode cX4_listOfLeft 35 = .ok (.iinc 2 (-1), 3) := by decide +kernel
theorem dX4_listOfLeft_38 : decode cX4_listOfLeft 38 = .ok (.goto (-29), 3) := by decide +kernel
theorem dX4_listOfLeft_41 : decode cX4_listOfLeft 41 = .ok (.iload_n 1, 1) := by decide +kernel
theorem dX4_listOfLeft_42 : decode cX4_listOfLeft 42 = .ok (.ireturn, 1) := by decide +kernel

section
variable {p : Program} {l : Launch} {e : Env} {R : Room} {s : State} {m : MethodId} {args : Array Value} {below : List Frame} {meth : Method} {c : Code} {H : Heap} {locs : List Loc} {Qf : State → Prop}
variable {ls : Array Slot} {D : va_G} {ca : Nat → ClassId} {A : Nat → Prop} {ad : Nat → Nat → Nat} {u : iST}
def v_4_listOfLeft_9b (R9 : Int → Int → iST → Prop) (Q : Int → iST → Prop) (x1 : Int) (x2 : Int) (u : iST) : Prop :=
  br (x2 < 0) (
    Q x1 u) (
    bd x2 20 (
    v_4_listOf (130 + x2) (fun v5 u => 
    v_11_pairCell v5 x1 (fun v6 u => 
    v_7_made v6 (fun v7 u => 
    ov (x2 + (-1)) (
    R9 v7 (x2 + (-1)) u)) u) u) u))
def v_4_listOfLeft_9 (Q : Int → iST → Prop) (x1 : Int) (x2 : Int) (u : iST) : Prop := ∀ R9 : Int → Int → iST → Prop, (∀ (x1 : Int) (x2 : Int) (u : iST), v_4_listOfLeft_9b R9 Q x1 x2 u → R9 x1 x2 u) → R9 x1 x2 u
set_option maxRecDepth 20000 in
set_option maxHeartbeats 4000000 in
theorem f_4_listOfLeft_9 (X : yX RX4 p m c cX4_listOfLeft 3 s args D ca ad A) (hRf : 2 ≤ R.frames) (hRl : 53 ≤ R.locals) {Q : Int → iST → Prop} (hret : ∀ (v : Int) (u : iST) (H : Heap) (locs : List Loc) (ls : Array Slot) (pc : Nat), inR v → Q v u → yW D ca A ad s H locs u → decode cX4_listOfLeft pc = .ok (.ireturn, 1) → W p l e R s m args below meth c H locs 0 0 Qf (F0 m pc ls [.int (jI v)])) {x1 x2 : Int} (rx1 : inR x1) (rx2 : inR x2) (hw : yW D ca A ad s H locs u) (hl : lv_has ls 3 [(0, .ref (ad 0 3)), (1, .int (jI x1)), (2, .int (jI x2))]) (h : v_4_listOfLeft_9 Q x1 x2 u) : W p l e R s m args below meth c H locs 0 0 Qf (F0 m 9 ls []) := by
  refine h (fun x1 x2 u => ∀ (H : Heap) (locs : List Loc) (ls : Array Slot), inR x1 → inR x2 → yW D ca A ad s H locs u → lv_has ls 3 [(0, .ref (ad 0 3)), (1, .int (jI x1)), (2, .int (jI x2))] → W p l e R s m args below meth c H locs 0 0 Qf (F0 m 9 ls [])) ?_ H locs ls rx1 rx2 hw hl
  clear h hl hw rx1 rx2
  intro x1 x2 u h H locs ls rx1 rx2 hw hl
  have hR9 : ∀ (x1 : Int) (x2 : Int) (u : iST) (H : Heap) (locs : List Loc) (ls : Array Slot), inR x1 → inR x2 → yW D ca A ad s H locs u → lv_has ls 3 [(0, .ref (ad 0 3)), (1, .int (jI x1)), (2, .int (jI x2))] → (fun (x1 : Int) (x2 : Int) u => ∀ (H : Heap) (locs : List Loc) (ls : Array Slot), inR x1 → inR x2 → yW D ca A ad s H locs u → lv_has ls 3 [(0, .ref (ad 0 3)), (1, .int (jI x1)), (2, .int (jI x2))] → W p l e R s m args below meth c H locs 0 0 Qf (F0 m 9 ls [])) x1 x2 u → W p l e R s m args below meth c H locs 0 0 Qf (F0 m 9 ls []) := fun x1 x2 u H locs ls rx1 rx2 hw hl h => h H locs ls rx1 rx2 hw hl
  have hx := X.1.1
  have hb := X.1.2.1
  unfold v_4_listOfLeft_9b at h
  refine lv_iload_n hx hb dX4_listOfLeft_9 rfl (lv_at hl 2 rfl) ?_
  refine k_if_lt hx hb rx2 dX4_listOfLeft_10 (tgt := 41) rfl h (fun h => ?_) (fun h => ?_)
  · refine lv_iload_n hx hb dX4_listOfLeft_41 rfl (lv_at hl 1 rfl) ?_
    exact hret _ _ _ _ _ _ rx1 h hw dX4_listOfLeft_42
  · refine lv_aload_n hx hb dX4_listOfLeft_13 rfl (lv_at hl 0 rfl) ?_
    refine yg_4_42 X hw dX4_listOfLeft_14 ?_
    refine lv_aload_n hx hb dX4_listOfLeft_17 rfl (lv_at hl 0 rfl) ?_
    refine lv_aload_n hx hb dX4_listOfLeft_18 rfl (lv_at hl 0 rfl) ?_
    refine yg_4_27 X hw dX4_listOfLeft_19 ?_
    refine lv_iload_n hx hb dX4_listOfLeft_22 rfl (lv_at hl 2 rfl) ?_
    have q3 := h
    have r4 : (0 ≤ (130 + x2) ∧ (130 + x2) < 408) := ⟨by have := q3.1; omega, by have := q3.2.1; omega⟩
    refine yx_6 X hw rx2 dX4_listOfLeft_23 h (fun h => ?_)
    refine ycI (n := 1) (e_4_listOf r4 h) 4 3 (r := (RX4, TX4, 11)) rfl yG_4_167 yD_4_listOf X hw rfl yGo_4 (Nat.le_trans (Nat.le_of_ble_eq_true rfl) hRf) (Nat.le_trans (Nat.le_of_ble_eq_true rfl) hRl) rfl hl.1 (Nat.le_of_ble_eq_true rfl) rfl dX4_listOfLeft_24 (fun v5 u H locs rv5 h hw => ?_)
    refine lv_iload_n hx hb dX4_listOfLeft_27 rfl (lv_at hl 1 rfl) ?_
    refine ycSN (n := 2) (e_11_pairCell rv5 rx1 h) (host := "ProofHouse") rfl goodPair yD_11_pairCell.2 X hw (yNm_4_137 X.2.2.1) (ysI_in (List.mem_of_getElem? (i := 11) rfl)) statPair (Nat.le_trans (Nat.le_of_ble_eq_true rfl) hRf) (Nat.le_trans (Nat.le_of_ble_eq_true rfl) hRl) rfl hl.1 (Nat.le_of_ble_eq_true rfl) rfl dX4_listOfLeft_28 (fun v6 u H locs rv6 h hw => ?_)
    refine ycI (n := 1) (e_7_made rv6 h) 7 6 (r := (RX7, TX7, 9)) rfl yG_4_141 yD_7_made X hw rfl yGo_7 (Nat.le_trans (Nat.le_of_ble_eq_true rfl) hRf) (Nat.le_trans (Nat.le_of_ble_eq_true rfl) hRl) rfl hl.1 (Nat.le_of_ble_eq_true rfl) rfl dX4_listOfLeft_31 (fun v7 u H locs rv7 h hw => ?_)
    refine lv_istore_n hx hb dX4_listOfLeft_34 rfl hl (by decide) rfl (fun ls hl => ?_)
    have hl : lv_has ls 3 [(1, .int (jI v7)), (0, .ref (ad 0 3)), (2, .int (jI x2))] := hl
    refine k_iinc (k := 2) hx hb dX4_listOfLeft_35 hl rfl (by decide) rfl h (fun ls r8 h hl => ?_)
    have hl : lv_has ls 3 [(2, .int (jI (x2 + (-1)))), (1, .int (jI v7)), (0, .ref (ad 0 3))] := hl
    refine lv_goto hx hb dX4_listOfLeft_38 (tgt := 9) rfl ?_
    exact hR9 _ _ _ H locs ls rv7 r8 hw (lv_sub hl [2, 1, 0] rfl) h

def v_4_listOfLeft (Q : Int → iST → Prop) (u : iST) : Prop :=
  rd (u.1 15) (fun v1 => 
  ov (v1 - 1) (
  v_4_listOfLeft_9 Q 0 (v1 - 1) u))
set_option maxRecDepth 20000 in
set_option maxHeartbeats 4000000 in
theorem f_4_listOfLeft_s (X : yX RX4 p m c cX4_listOfLeft 3 s args D ca ad A) (hRf : 2 ≤ R.frames) (hRl : 53 ≤ R.locals) {Q : Int → iST → Prop} (hret : ∀ (v : Int) (u : iST) (H : Heap) (locs : List Loc) (ls : Array Slot) (pc : Nat), inR v → Q v u → yW D ca A ad s H locs u → decode cX4_listOfLeft pc = .ok (.ireturn, 1) → W p l e R s m args below meth c H locs 0 0 Qf (F0 m pc ls [.int (jI v)])) (hw : yW D ca A ad s H locs u) (hl : lv_has ls 3 [(0, .ref (ad 0 3))]) (h : v_4_listOfLeft Q u) : W p l e R s m args below meth c H locs 0 0 Qf (F0 m 0 ls []) := by
  have hx := X.1.1
  have hb := X.1.2.1
  unfold v_4_listOfLeft at h
  refine lv_iconst hx hb dX4_listOfLeft_0 (v := jI 0) rfl ?_
  refine lv_istore_n hx hb dX4_listOfLeft_1 rfl hl (by decide) rfl (fun ls hl => ?_)
  have hl : lv_has ls 3 [(1, .int (jI 0)), (0, .ref (ad 0 3))] := hl
  refine lv_aload_n hx hb dX4_listOfLeft_2 rfl (lv_at hl 1 rfl) ?_
  refine yg_4_30 X hw dX4_listOfLeft_3 h (fun v1 rv1 h => ?_)
  refine lv_iconst hx hb dX4_listOfLeft_6 (v := jI 1) rfl ?_
  refine k_isub hx hb dX4_listOfLeft_7 h (fun r2 h => ?_)
  refine lv_istore_n hx hb dX4_listOfLeft_8 rfl hl (by decide) rfl (fun ls hl => ?_)
  have hl : lv_has ls 3 [(2, .int (jI (v1 - 1))), (1, .int (jI 0)), (0, .ref (ad 0 3))] := hl
  exact f_4_listOfLeft_9 X hRf hRl hret (by decide) r2 hw (lv_sub hl [2, 1, 0] rfl) h

end
theorem e_4_listOfLeft {l : Launch} {Q : Int → iST → Prop} {u : iST} (h : v_4_listOfLeft Q u) : yMI l yX4_listOfLeft (.code yX4_listOfLeft cX4_listOfLeft 3 (some .int) :: wsN) { frames := 2, cells := 0, slots := 0, locals := 53 } (fun ad => [.ref (ad 0 3)]) Q u := yMI_of (own := RX4) rfl (by decide +kernel) (fun _ => Nat.le_of_ble_eq_true rfl) (fun X hRf hRl hret hw hl => f_4_listOfLeft_s X hRf hRl hret hw hl h)

/-! ProofHouse$Rewriter.isAllRecalled -/
theorem dX6_isAllRecalled_0 : decode cX6_isAllRecalled 0 = .ok (.aload_n 0, 1) := by decide +kernel
theorem dX6_isAllRecalled_1 : decode cX6_isAllRecalled 1 = .ok (.getfield 36, 3) := by decide +kernel
theorem dX6_isAllRecalled_4 : decode cX6_isAllRecalled 4 = .ok (.aload_n 0, 1) := by decide +kernel
theorem dX6_isAllRecalled_5 : decode cX6_isAllRecalled 5 = .ok (.getfield 29, 3) := by decide +kernel
theorem dX6_isAllRecalled_8 : decode cX6_isAllRecalled 8 = .ok (.if_icmp .ne 7, 3) := by decide +kernel
theorem dX6_isAllRecalled_11 : decode cX6_isAllRecalled 11 = .ok (.iconst 1, 1) := by decide +kernel
theorem dX6_isAllRecalled_12 : decode cX6_isAllRecalled 12 = .ok (.goto 4, 3) := by decide +kernel
theorem dX6_isAllRecalled_15 : decode cX6_isAllRecalled 15 = .ok (.iconst 0, 1) := by decide +kernel
theorem dX6_isAllRecalled_16 : decode cX6_isAllRecalled 16 = .ok (.ireturn, 1) := by decide +kernel

section
variable {p : Program} {l : Launch} {e : Env} {R : Room} {s : State} {m : MethodId} {args : Array Value} {below : List Frame} {meth : Method} {c : Code} {H : Heap} {locs : List Loc} {Qf : State → Prop}
variable {ls : Array Slot} {D : va_G} {ca : Nat → ClassId} {A : Nat → Prop} {ad : Nat → Nat → Nat} {u : iST}
def v_6_isAllRecalled (Q : Int → iST → Prop) (u : iST) : Prop :=
  rd (u.1 28) (fun v1 => 
  rd (u.1 26) (fun v2 => 
  br (v1 ≠ v2) (
    zt 0 (Q 0 u)) (
    zt 1 (Q 1 u))))
set_option maxRecDepth 20000 in
set_option maxHeartbeats 4000000 in
theorem f_6_isAllRecalled_s (X : yX RX6 p m c cX6_isAllRecalled 1 s args D ca ad A) (hRf : 0 ≤ R.frames) (hRl : 0 ≤ R.locals) {Q : Int → iST → Prop} (hret : ∀ (v : Int) (u : iST) (H : Heap) (locs : List Loc) (ls : Array Slot) (pc : Nat), bz v → Q v u → yW D ca A ad s H locs u → decode cX6_isAllRecalled pc = .ok (.ireturn, 1) → W p l e R s m args below meth c H locs 0 0 Qf (F0 m pc ls [.int (jI v)])) (hw : yW D ca A ad s H locs u) (hl : lv_has ls 1 [(0, .ref (ad 0 5))]) (h : v_6_isAllRecalled Q u) : W p l e R s m args below meth c H locs 0 0 Qf (F0 m 0 ls []) := by
  have hx := X.1.1
  have hb := X.1.2.1
  unfold v_6_isAllRecalled at h
  refine lv_aload_n hx hb dX6_isAllRecalled_0 rfl (lv_at hl 0 rfl) ?_
  refine yg_6_36 X hw dX6_isAllRecalled_1 h (fun v1 rv1 h => ?_)
  refine lv_aload_n hx hb dX6_isAllRecalled_4 rfl (lv_at hl 0 rfl) ?_
  refine yg_6_29 X hw dX6_isAllRecalled_5 h (fun v2 rv2 h => ?_)
  refine k_icmp_ne hx hb rv1 rv2 dX6_isAllRecalled_8 (tgt := 15) rfl h (fun h => ?_) (fun h => ?_)
  · refine lv_iconst hx hb dX6_isAllRecalled_15 (v := jI 0) rfl ?_
    exact hret _ _ _ _ _ _ h.1 h.2 hw dX6_isAllRecalled_16
  · refine lv_iconst hx hb dX6_isAllRecalled_11 (v := jI 1) rfl ?_
    refine lv_goto hx hb dX6_isAllRecalled_12 (tgt := 16) rfl ?_
    exact hret _ _ _ _ _ _ h.1 h.2 hw dX6_isAllRecalled_16

end
theorem e_6_isAllRecalled {l : Launch} {Q : Int → iST → Prop} {u : iST} (h : v_6_isAllRecalled Q u) : yMI l yX6_isAllRecalled (.code yX6_isAllRecalled cX6_isAllRecalled 1 (some .boolean) :: wsN) { frames := 0, cells := 0, slots := 0, locals := 0 } (fun ad => [.ref (ad 0 5)]) Q u := yMZ_of (own := RX6) rfl (by decide +kernel) (fun _ => Nat.le_of_ble_eq_true rfl) (fun X hRf hRl hret hw hl => f_6_isAllRecalled_s X hRf hRl hret hw hl h)

/-! ProofHouse$Prover.isAllProved -/
theorem dX4_isAllProved_0 : decode cX4_isAllProved 0 = .ok (.aload_n 0, 1) := by decide +kernel
theorem dX4_isAllProved_1 : decode cX4_isAllProved 1 = .ok (.getfield 42, 3) := by decide +kernel
theorem dX4_isAllProved_4 : decode cX4_isAllProved 4 = .ok (.getfield 63, 3) := by decide +kernel
theorem dX4_isAllProved_7 : decode cX4_isAllProved 7 = .ok (.ifCond .ne 31, 3) := by decide +kernel
theorem dX4_isAllProved_10 : decode cX4_isAllProved 10 = .ok (.aload_n 0, 1) := by decide +kernel
theorem dX4_isAllProved_11 : decode cX4_isAllProved 11 = .ok (.getfield 30, 3) := by decide +kernel
theorem dX4_isAllProved_14 : decode cX4_isAllProved 14 = .ok (.ifCond .ne 24, 3) := by decide +kernel
theorem dX4_isAllProved_17 : decode cX4_isAllProved 17 = .ok (.aload_n 0, 1) := by decide +kernel
theorem dX4_isAllProved_18 : decode cX4_isAllProved 18 = .ok (.getfield 38, 3) := by decide +kernel
theorem dX4_isAllProved_21 : decode cX4_isAllProved 21 = .ok (.ifCond .eq 13, 3) := by decide +kernel
theorem dX4_isAllProved_24 : decode cX4_isAllProved 24 = .ok (.aload_n 0, 1) := by decide +kernel
theorem dX4_isAllProved_25 : decode cX4_isAllProved 25 = .ok (.getfield 50, 3) := by decide +kernel
theorem dX4_isAllProved_28 : decode cX4_isAllProved 28 = .ok (.invokevirtual 171, 3) := by decide +kernel
theorem dX4_isAllProved_31 : decode cX4_isAllProved 31 = .ok (.ifCond .eq 7, 3) := by decide +kernel
theorem dX4_isAllProved_34 : decode cX4_isAllProved 34 = .ok (.iconst 1, 1) := by decide +kernel
theorem dX4_isAllProved_35 : decode cX4_isAllProved 35 = .ok (.goto 4, 3) := by decide +kernel
theorem dX4_isAllProved_38 : decode cX4_isAllProved 38 = .ok (.iconst 0, 1) := by decide +kernel
theorem dX4_isAllProved_39 : decode cX4_isAllProved 39 = .ok (.ireturn, 1) := by decide +kernel

section
variable {p : Program} {l : Launch} {e : Env} {R : Room} {s : State} {m : MethodId} {args : Array Value} {below : List Frame} {meth : Method} {c : Code} {H : Heap} {locs : List Loc} {Qf : State → Prop}
variable {ls : Array Slot} {D : va_G} {ca : Nat → ClassId} {A : Nat → Prop} {ad : Nat → Nat → Nat} {u : iST}
def v_4_isAllProved (Q : Int → iST → Prop) (u : iST) : Prop :=
  rd (u.1 32) (fun v1 => 
  br (v1 ≠ 0) (
    zt 0 (Q 0 u)) (
    rd (u.1 15) (fun v2 => 
    br (v2 ≠ 0) (
      zt 0 (Q 0 u)) (
      rz (u.1 16) (fun v3 => 
      br (v3 = 0) (
        zt 1 (Q 1 u)) (
        v_6_isAllRecalled (fun v4 u => 
        br (v4 = 0) (
          zt 0 (Q 0 u)) (
          zt 1 (Q 1 u))) u))))))
set_option maxRecDepth 20000 in
set_option maxHeartbeats 4000000 in
theorem f_4_isAllProved_s (X : yX RX4 p m c cX4_isAllProved 1 s args D ca ad A) (hRf : 1 ≤ R.frames) (hRl : 20 ≤ R.locals) {Q : Int → iST → Prop} (hret : ∀ (v : Int) (u : iST) (H : Heap) (locs : List Loc) (ls : Array Slot) (pc : Nat), bz v → Q v u → yW D ca A ad s H locs u → decode cX4_isAllProved pc = .ok (.ireturn, 1) → W p l e R s m args below meth c H locs 0 0 Qf (F0 m pc ls [.int (jI v)])) (hw : yW D ca A ad s H locs u) (hl : lv_has ls 1 [(0, .ref (ad 0 3))]) (h : v_4_isAllProved Q u) : W p l e R s m args below meth c H locs 0 0 Qf (F0 m 0 ls []) := by
  have hx := X.1.1
  have hb := X.1.2.1
  unfold v_4_isAllProved at h
  refine lv_aload_n hx hb dX4_isAllProved_0 rfl (lv_at hl 0 rfl) ?_
  refine yg_4_42 X hw dX4_isAllProved_1 ?_
  refine yg_4_63 X hw dX4_isAllProved_4 h (fun v1 rv1 h => ?_)
  refine k_if_ne hx hb rv1 dX4_isAllProved_7 (tgt := 38) rfl h (fun h => ?_) (fun h => ?_)
  · refine lv_iconst hx hb dX4_isAllProved_38 (v := jI 0) rfl ?_
    exact hret _ _ _ _ _ _ h.1 h.2 hw dX4_isAllProved_39
  · refine lv_aload_n hx hb dX4_isAllProved_10 rfl (lv_at hl 0 rfl) ?_
    refine yg_4_30 X hw dX4_isAllProved_11 h (fun v2 rv2 h => ?_)
    refine k_if_ne hx hb rv2 dX4_isAllProved_14 (tgt := 38) rfl h (fun h => ?_) (fun h => ?_)
    · refine lv_iconst hx hb dX4_isAllProved_38 (v := jI 0) rfl ?_
      exact hret _ _ _ _ _ _ h.1 h.2 hw dX4_isAllProved_39
    · refine lv_aload_n hx hb dX4_isAllProved_17 rfl (lv_at hl 0 rfl) ?_
      refine yg_4_38 X hw dX4_isAllProved_18 h (fun v3 rv3 h => ?_)
      refine k_if_eq hx hb (bz_in rv3) dX4_isAllProved_21 (tgt := 34) rfl h (fun h => ?_) (fun h => ?_)
      · refine lv_iconst hx hb dX4_isAllProved_34 (v := jI 1) rfl ?_
        refine lv_goto hx hb dX4_isAllProved_35 (tgt := 39) rfl ?_
        exact hret _ _ _ _ _ _ h.1 h.2 hw dX4_isAllProved_39
      · refine lv_aload_n hx hb dX4_isAllProved_24 rfl (lv_at hl 0 rfl) ?_
        refine yg_4_50 X hw dX4_isAllProved_25 ?_
        refine ycI (n := 0) (e_6_isAllRecalled h) 6 5 (r := (RX6, TX6, 14)) rfl yG_4_171 yD_6_isAllRecalled X hw rfl yGo_6 (Nat.le_trans (Nat.le_of_ble_eq_true rfl) hRf) (Nat.le_trans (Nat.le_of_ble_eq_true rfl) hRl) rfl hl.1 (Nat.le_of_ble_eq_true rfl) rfl dX4_isAllProved_28 (fun v4 u H locs rv4 h hw => ?_)
        refine k_if_eq hx hb rv4 dX4_isAllProved_31 (tgt := 38) rfl h (fun h => ?_) (fun h => ?_)
        · refine lv_iconst hx hb dX4_isAllProved_38 (v := jI 0) rfl ?_
          exact hret _ _ _ _ _ _ h.1 h.2 hw dX4_isAllProved_39
        · refine lv_iconst hx hb dX4_isAllProved_34 (v := jI 1) rfl ?_
          refine lv_goto hx hb dX4_isAllProved_35 (tgt := 39) rfl ?_
          exact hret _ _ _ _ _ _ h.1 h.2 hw dX4_isAllProved_39

end
theorem e_4_isAllProved {l : Launch} {Q : Int → iST → Prop} {u : iST} (h : v_4_isAllProved Q u) : yMI l yX4_isAllProved (.code yX4_isAllProved cX4_isAllProved 1 (some .boolean) :: wsN) { frames := 1, cells := 0, slots := 0, locals := 20 } (fun ad => [.ref (ad 0 3)]) Q u := yMZ_of (own := RX4) rfl (by decide +kernel) (fun _ => Nat.le_of_ble_eq_true rfl) (fun X hRf hRl hret hw hl => f_4_isAllProved_s X hRf hRl hret hw hl h)

/-! ProofHouse$Reader.lineEnd -/
theorem dX5_lineEnd_0 : decode cX5_lineEnd 0 = .ok (.iload_n 2, 1) := by decide +kernel
theorem dX5_lineEnd_1 : decode cX5_lineEnd 1 = .ok (.istore 4, 2) := by decide +kernel
theorem dX5_lineEnd_3 : decode cX5_lineEnd 3 = .ok (.iload 4, 2) := by decide +kernel
theorem dX5_lineEnd_5 : decode cX5_lineEnd 5 = .ok (.iload_n 3, 1) := by decide +kernel
theorem dX5_lineEnd_6 : decode cX5_lineEnd 6 = .ok (.if_icmp .ge 18, 3) := by decide +kernel
theorem dX5_lineEnd_9 : decode cX5_lineEnd 9 = .ok (.aload_n 1, 1) := by decide +kernel
theorem dX5_lineEnd_10 : decode cX5_lineEnd 10 = .ok (.iload 4, 2) := by decide +kernel
theorem dX5_lineEnd_12 : decode cX5_lineEnd 12 = .ok (.caload, 1) := by decide +kernel
theorem dX5_lineEnd_13 : decode cX5_lineEnd 13 = .ok (.bipush 10, 2) := by decide +kernel
theorem dX5_lineEnd_15 : decode cX5_lineEnd 15 = .ok (.if_icmp .eq 9, 3) := by decide +kernel
theorem dX5_lineEnd_18 : decode cX5_lineEnd 18 = .ok (.iinc 4 1, 3) := by decide +kernel
theorem dX5_lineEnd_21 : decode cX5_lineEnd 21 = .ok (.goto (-18), 3) := by decide +kernel
theorem dX5_lineEnd_24 : decode cX5_lineEnd 24 = .ok (.iload 4, 2) := by decide +kernel
theorem dX5_lineEnd_26 : decode cX5_lineEnd 26 = .ok (.ireturn, 1) := by decide +kernel

section
variable {p : Program} {l : Launch} {e : Env} {R : Room} {s : State} {m : MethodId} {args : Array Value} {below : List Frame} {meth : Method} {c : Code} {H : Heap} {locs : List Loc} {Qf : State → Prop}
variable {ls : Array Slot} {D : va_G} {ca : Nat → ClassId} {A : Nat → Prop} {ad : Nat → Nat → Nat} {u : iST}
def v_5_lineEnd_3b (R3 : Int → Int → iST → Prop) (Q : Int → iST → Prop) (x3 : Int) (x4 : Int) (u : iST) : Prop :=
  br (x3 ≤ x4) (
    Q x4 u) (
    bd x4 3000 (rh (u.2.1 44 x4) (fun v1 => 
    br (v1 = 10) (
      Q x4 u) (
      ov (x4 + 1) (
      R3 x3 (x4 + 1) u)))))
def v_5_lineEnd_3 (Q : Int → iST → Prop) (x3 : Int) (x4 : Int) (u : iST) : Prop := ∀ R3 : Int → Int → iST → Prop, (∀ (x3 : Int) (x4 : Int) (u : iST), v_5_lineEnd_3b R3 Q x3 x4 u → R3 x3 x4 u) → R3 x3 x4 u
set_option maxRecDepth 20000 in
set_option maxHeartbeats 4000000 in
theorem f_5_lineEnd_3 (X : yX RX5 p m c cX5_lineEnd 5 s args D ca ad A) (hRf : 0 ≤ R.frames) (hRl : 0 ≤ R.locals) {Q : Int → iST → Prop} (hret : ∀ (v : Int) (u : iST) (H : Heap) (locs : List Loc) (ls : Array Slot) (pc : Nat), inR v → Q v u → yW D ca A ad s H locs u → decode cX5_lineEnd pc = .ok (.ireturn, 1) → W p l e R s m args below meth c H locs 0 0 Qf (F0 m pc ls [.int (jI v)])) {x3 x4 : Int} (rx3 : inR x3) (rx4 : inR x4) (hw : yW D ca A ad s H locs u) (hl : lv_has ls 5 [(0, .ref (ad 0 4)), (1, .ref (ad 1 44)), (3, .int (jI x3)), (4, .int (jI x4))]) (h : v_5_lineEnd_3 Q x3 x4 u) : W p l e R s m args below meth c H locs 0 0 Qf (F0 m 3 ls []) := by
  refine h (fun x3 x4 u => ∀ (H : Heap) (locs : List Loc) (ls : Array Slot), inR x3 → inR x4 → yW D ca A ad s H locs u → lv_has ls 5 [(0, .ref (ad 0 4)), (1, .ref (ad 1 44)), (3, .int (jI x3)), (4, .int (jI x4))] → W p l e R s m args below meth c H locs 0 0 Qf (F0 m 3 ls [])) ?_ H locs ls rx3 rx4 hw hl
  clear h hl hw rx3 rx4
  intro x3 x4 u h H locs ls rx3 rx4 hw hl
  have hR3 : ∀ (x3 : Int) (x4 : Int) (u : iST) (H : Heap) (locs : List Loc) (ls : Array Slot), inR x3 → inR x4 → yW D ca A ad s H locs u → lv_has ls 5 [(0, .ref (ad 0 4)), (1, .ref (ad 1 44)), (3, .int (jI x3)), (4, .int (jI x4))] → (fun (x3 : Int) (x4 : Int) u => ∀ (H : Heap) (locs : List Loc) (ls : Array Slot), inR x3 → inR x4 → yW D ca A ad s H locs u → lv_has ls 5 [(0, .ref (ad 0 4)), (1, .ref (ad 1 44)), (3, .int (jI x3)), (4, .int (jI x4))] → W p l e R s m args below meth c H locs 0 0 Qf (F0 m 3 ls [])) x3 x4 u → W p l e R s m args below meth c H locs 0 0 Qf (F0 m 3 ls []) := fun x3 x4 u H locs ls rx3 rx4 hw hl h => h H locs ls rx3 rx4 hw hl
  have hx := X.1.1
  have hb := X.1.2.1
  unfold v_5_lineEnd_3b at h
  refine lv_iload hx hb dX5_lineEnd_3 (lv_at hl 3 rfl) ?_
  refine lv_iload_n hx hb dX5_lineEnd_5 rfl (lv_at hl 2 rfl) ?_
  refine k_icmp_ge hx hb rx4 rx3 dX5_lineEnd_6 (tgt := 24) rfl h (fun h => ?_) (fun h => ?_)
  · refine lv_iload hx hb dX5_lineEnd_24 (lv_at hl 3 rfl) ?_
    exact hret _ _ _ _ _ _ rx4 h hw dX5_lineEnd_26
  · refine lv_aload_n hx hb dX5_lineEnd_9 rfl (lv_at hl 1 rfl) ?_
    refine lv_iload hx hb dX5_lineEnd_10 (lv_at hl 3 rfl) ?_
    refine yl_44 X hw rx4 dX5_lineEnd_12 h (fun v1 rv1 h => ?_)
    refine lv_bipush hx hb dX5_lineEnd_13 (v := jI 10) rfl ?_
    refine k_icmp_eq hx hb (inC_in rv1) (by decide) dX5_lineEnd_15 (tgt := 24) rfl h (fun h => ?_) (fun h => ?_)
    · refine lv_iload hx hb dX5_lineEnd_24 (lv_at hl 3 rfl) ?_
      exact hret _ _ _ _ _ _ rx4 h hw dX5_lineEnd_26
    · refine k_iinc (k := 3) hx hb dX5_lineEnd_18 hl rfl (by decide) rfl h (fun ls r2 h hl => ?_)
      have hl : lv_has ls 5 [(4, .int (jI (x4 + 1))), (0, .ref (ad 0 4)), (1, .ref (ad 1 44)), (3, .int (jI x3))] := hl
      refine lv_goto hx hb dX5_lineEnd_21 (tgt := 3) rfl ?_
      exact hR3 _ _ _ H locs ls rx3 r2 hw (lv_sub hl [1, 2, 3, 0] rfl) h

def v_5_lineEnd (a1 : Int) (a2 : Int) (Q : Int → iST → Prop) (u : iST) : Prop :=
  v_5_lineEnd_3 Q a2 a1 u
set_option maxRecDepth 20000 in
set_option maxHeartbeats 4000000 in
theorem f_5_lineEnd_s (X : yX RX5 p m c cX5_lineEnd 5 s args D ca ad A) (hRf : 0 ≤ R.frames) (hRl : 0 ≤ R.locals) {Q : Int → iST → Prop} (hret : ∀ (v : Int) (u : iST) (H : Heap) (locs : List Loc) (ls : Array Slot) (pc : Nat), inR v → Q v u → yW D ca A ad s H locs u → decode cX5_lineEnd pc = .ok (.ireturn, 1) → W p l e R s m args below meth c H locs 0 0 Qf (F0 m pc ls [.int (jI v)])) {a1 a2 : Int} (ra1 : inR a1) (ra2 : inR a2) (hw : yW D ca A ad s H locs u) (hl : lv_has ls 5 [(0, .ref (ad 0 4)), (1, .ref (ad 1 44)), (2, .int (jI a1)), (3, .int (jI a2))]) (h : v_5_lineEnd a1 a2 Q u) : W p l e R s m args below meth c H locs 0 0 Qf (F0 m 0 ls []) := by
  have hx := X.1.1
  have hb := X.1.2.1
  unfold v_5_lineEnd at h
  refine lv_iload_n hx hb dX5_lineEnd_0 rfl (lv_at hl 2 rfl) ?_
  refine lv_istore hx hb dX5_lineEnd_1 hl (by decide) rfl (fun ls hl => ?_)
  have hl : lv_has ls 5 [(4, .int (jI a1)), (0, .ref (ad 0 4)), (1, .ref (ad 1 44)), (2, .int (jI a1)), (3, .int (jI a2))] := hl
  exact f_5_lineEnd_3 X hRf hRl hret ra2 ra1 hw (lv_sub hl [1, 2, 4, 0] rfl) h

end
theorem e_5_lineEnd {l : Launch} {a1 : Int} {a2 : Int} (ra1 : inR a1) (ra2 : inR a2) {Q : Int → iST → Prop} {u : iST} (h : v_5_lineEnd a1 a2 Q u) : yMI l yX5_lineEnd (.code yX5_lineEnd cX5_lineEnd 5 (some .int) :: wsN) { frames := 0, cells := 0, slots := 0, locals := 0 } (fun ad => [.ref (ad 0 4), .ref (ad 1 44), .int (jI a1), .int (jI a2)]) Q u := yMI_of (own := RX5) rfl (by decide +kernel) (fun _ => Nat.le_of_ble_eq_true rfl) (fun X hRf hRl hret hw hl => f_5_lineEnd_s X hRf hRl hret ra1 ra2 hw hl h)

/-! ProofHouse$Reader.atomEnd -/
theorem dX5_atomEnd_0 : decode cX5_atomEnd 0 = .ok (.iload_n 2, 1) := by decide +kernel
theorem dX5_atomEnd_1 : decode cX5_atomEnd 1 = .ok (.istore 4, 2) := by decide +kernel
theorem dX5_atomEnd_3 : decode cX5_atomEnd 3 = .ok (.iload 4, 2) := by decide +kernel
theorem dX5_atomEnd_5 : decode cX5_atomEnd 5 = .ok (.iload_n 3, 1) := by decide +kernel
theorem dX5_atomEnd_6 : decode cX5_atomEnd 6 = .ok (.if_icmp .ge 21, 3) := by decide +kernel
theorem dX5_atomEnd_9 : decode cX5_atomEnd 9 = .ok (.ldc 64, 2) := by decide +kernel
theorem dX5_atomEnd_11 : decode cX5_atomEnd 11 = .ok (.aload_n 1, 1) := by decide +kernel
theorem dX5_atomEnd_12 : decode cX5_atomEnd 12 = .ok (.iload 4, 2) := by decide +kernel
theorem dX5_atomEnd_14 : decode cX5_atomEnd 14 = .ok (.caload, 1) := by decide +kernel
theorem dX5_atomEnd_15 : decode cX5_atomEnd 15 = .ok (.invokevirtual 66, 3) := by decide +kernel
theorem dX5_atomEnd_18 : decode cX5_atomEnd 18 = .ok (.ifCond .le 9, 3) := by decide +kernel
theorem dX5_atomEnd_21 : decode cX5_atomEnd 21 = .ok (.iinc 4 1, 3) := by decide +kernel
theorem dX5_atomEnd_24 : decode cX5_atomEnd 24 = .ok (.goto (-21), 3) := by decide +kernel
theorem dX5_atomEnd_27 : decode cX5_atomEnd 27 = .ok (.iload 4, 2) := by decide +kernel
theorem dX5_atomEnd_29 : decode cX5_atomEnd 29 = .ok (.ireturn, 1) := by decide +kernel

section
variable {p : Program} {l : Launch} {e : Env} {R : Room} {s : State} {m : MethodId} {args : Array Value} {below : List Frame} {meth : Method} {c : Code} {H : Heap} {locs : List Loc} {Qf : State → Prop}
variable {ls : Array Slot} {D : va_G} {ca : Nat → ClassId} {A : Nat → Prop} {ad : Nat → Nat → Nat} {u : iST}
def v_5_atomEnd_3b (R3 : Int → Int → iST → Prop) (Q : Int → iST → Prop) (x3 : Int) (x4 : Int) (u : iST) : Prop :=
  br (x3 ≤ x4) (
    Q x4 u) (
    bd x4 3000 (rh (u.2.1 44 x4) (fun v1 => 
    ri v1 (fun v2 => 
    br (v2 ≤ 0) (
      Q x4 u) (
      ov (x4 + 1) (
      R3 x3 (x4 + 1) u))))))
def v_5_atomEnd_3 (Q : Int → iST → Prop) (x3 : Int) (x4 : Int) (u : iST) : Prop := ∀ R3 : Int → Int → iST → Prop, (∀ (x3 : Int) (x4 : Int) (u : iST), v_5_atomEnd_3b R3 Q x3 x4 u → R3 x3 x4 u) → R3 x3 x4 u
set_option maxRecDepth 20000 in
set_option maxHeartbeats 4000000 in
theorem f_5_atomEnd_3 (X : yX RX5 p m c cX5_atomEnd 5 s args D ca ad A) (hRf : 6 ≤ R.frames) (hRl : 200 ≤ R.locals) {Q : Int → iST → Prop} (hret : ∀ (v : Int) (u : iST) (H : Heap) (locs : List Loc) (ls : Array Slot) (pc : Nat), inR v → Q v u → yW D ca A ad s H locs u → decode cX5_atomEnd pc = .ok (.ireturn, 1) → W p l e R s m args below meth c H locs 0 0 Qf (F0 m pc ls [.int (jI v)])) {x3 x4 : Int} (rx3 : inR x3) (rx4 : inR x4) (hw : yW D ca A ad s H locs u) (hl : lv_has ls 5 [(0, .ref (ad 0 4)), (1, .ref (ad 1 44)), (3, .int (jI x3)), (4, .int (jI x4))]) (h : v_5_atomEnd_3 Q x3 x4 u) : W p l e R s m args below meth c H locs 0 0 Qf (F0 m 3 ls []) := by
  refine h (fun x3 x4 u => ∀ (H : Heap) (locs : List Loc) (ls : Array Slot), inR x3 → inR x4 → yW D ca A ad s H locs u → lv_has ls 5 [(0, .ref (ad 0 4)), (1, .ref (ad 1 44)), (3, .int (jI x3)), (4, .int (jI x4))] → W p l e R s m args below meth c H locs 0 0 Qf (F0 m 3 ls [])) ?_ H locs ls rx3 rx4 hw hl
  clear h hl hw rx3 rx4
  intro x3 x4 u h H locs ls rx3 rx4 hw hl
  have hR3 : ∀ (x3 : Int) (x4 : Int) (u : iST) (H : Heap) (locs : List Loc) (ls : Array Slot), inR x3 → inR x4 → yW D ca A ad s H locs u → lv_has ls 5 [(0, .ref (ad 0 4)), (1, .ref (ad 1 44)), (3, .int (jI x3)), (4, .int (jI x4))] → (fun (x3 : Int) (x4 : Int) u => ∀ (H : Heap) (locs : List Loc) (ls : Array Slot), inR x3 → inR x4 → yW D ca A ad s H locs u → lv_has ls 5 [(0, .ref (ad 0 4)), (1, .ref (ad 1 44)), (3, .int (jI x3)), (4, .int (jI x4))] → W p l e R s m args below meth c H locs 0 0 Qf (F0 m 3 ls [])) x3 x4 u → W p l e R s m args below meth c H locs 0 0 Qf (F0 m 3 ls []) := fun x3 x4 u H locs ls rx3 rx4 hw hl h => h H locs ls rx3 rx4 hw hl
  have hx := X.1.1
  have hb := X.1.2.1
  unfold v_5_atomEnd_3b at h
  refine lv_iload hx hb dX5_atomEnd_3 (lv_at hl 3 rfl) ?_
  refine lv_iload_n hx hb dX5_atomEnd_5 rfl (lv_at hl 2 rfl) ?_
  refine k_icmp_ge hx hb rx4 rx3 dX5_atomEnd_6 (tgt := 27) rfl h (fun h => ?_) (fun h => ?_)
  · refine lv_iload hx hb dX5_atomEnd_27 (lv_at hl 3 rfl) ?_
    exact hret _ _ _ _ _ _ rx4 h hw dX5_atomEnd_29
  · refine ySt_5_64 X hw dX5_atomEnd_9 ?_
    refine lv_aload_n hx hb dX5_atomEnd_11 rfl (lv_at hl 1 rfl) ?_
    refine lv_iload hx hb dX5_atomEnd_12 (lv_at hl 3 rfl) ?_
    refine yl_44 X hw rx4 dX5_atomEnd_14 h (fun v1 rv1 h => ?_)
    refine yIdx_5_66 X hw (inC_in rv1) hl.1 (Nat.le_of_ble_eq_true rfl) (Nat.le_trans (Nat.le_of_ble_eq_true rfl) hRf) (Nat.le_trans (Nat.le_of_ble_eq_true rfl) hRl) dX5_atomEnd_15 h (fun v2 H locs rv2 hw h => ?_)
    refine k_if_le hx hb rv2 dX5_atomEnd_18 (tgt := 27) rfl h (fun h => ?_) (fun h => ?_)
    · refine lv_iload hx hb dX5_atomEnd_27 (lv_at hl 3 rfl) ?_
      exact hret _ _ _ _ _ _ rx4 h hw dX5_atomEnd_29
    · refine k_iinc (k := 3) hx hb dX5_atomEnd_21 hl rfl (by decide) rfl h (fun ls r3 h hl => ?_)
      have hl : lv_has ls 5 [(4, .int (jI (x4 + 1))), (0, .ref (ad 0 4)), (1, .ref (ad 1 44)), (3, .int (jI x3))] := hl
      refine lv_goto hx hb dX5_atomEnd_24 (tgt := 3) rfl ?_
      exact hR3 _ _ _ H locs ls rx3 r3 hw (lv_sub hl [1, 2, 3, 0] rfl) h

def v_5_atomEnd (a1 : Int) (a2 : Int) (Q : Int → iST → Prop) (u : iST) : Prop :=
  v_5_atomEnd_3 Q a2 a1 u
set_option maxRecDepth 20000 in
set_option maxHeartbeats 4000000 in
theorem f_5_atomEnd_s (X : yX RX5 p m c cX5_atomEnd 5 s args D ca ad A) (hRf : 6 ≤ R.frames) (hRl : 200 ≤ R.locals) {Q : Int → iST → Prop} (hret : ∀ (v : Int) (u : iST) (H : Heap) (locs : List Loc) (ls : Array Slot) (pc : Nat), inR v → Q v u → yW D ca A ad s H locs u → decode cX5_atomEnd pc = .ok (.ireturn, 1) → W p l e R s m args below meth c H locs 0 0 Qf (F0 m pc ls [.int (jI v)])) {a1 a2 : Int} (ra1 : inR a1) (ra2 : inR a2) (hw : yW D ca A ad s H locs u) (hl : lv_has ls 5 [(0, .ref (ad 0 4)), (1, .ref (ad 1 44)), (2, .int (jI a1)), (3, .int (jI a2))]) (h : v_5_atomEnd a1 a2 Q u) : W p l e R s m args below meth c H locs 0 0 Qf (F0 m 0 ls []) := by
  have hx := X.1.1
  have hb := X.1.2.1
  unfold v_5_atomEnd at h
  refine lv_iload_n hx hb dX5_atomEnd_0 rfl (lv_at hl 2 rfl) ?_
  refine lv_istore hx hb dX5_atomEnd_1 hl (by decide) rfl (fun ls hl => ?_)
  have hl : lv_has ls 5 [(4, .int (jI a1)), (0, .ref (ad 0 4)), (1, .ref (ad 1 44)), (2, .int (jI a1)), (3, .int (jI a2))] := hl
  exact f_5_atomEnd_3 X hRf hRl hret ra2 ra1 hw (lv_sub hl [1, 2, 4, 0] rfl) h

end
theorem e_5_atomEnd {l : Launch} {a1 : Int} {a2 : Int} (ra1 : inR a1) (ra2 : inR a2) {Q : Int → iST → Prop} {u : iST} (h : v_5_atomEnd a1 a2 Q u) : yMI l yX5_atomEnd (.code yX5_atomEnd cX5_atomEnd 5 (some .int) :: wsN) { frames := 6, cells := 0, slots := 0, locals := 200 } (fun ad => [.ref (ad 0 4), .ref (ad 1 44), .int (jI a1), .int (jI a2)]) Q u := yMI_of (own := RX5) rfl (by decide +kernel) (fun _ => Nat.le_of_ble_eq_true rfl) (fun X hRf hRl hret hw hl => f_5_atomEnd_s X hRf hRl hret ra1 ra2 hw hl h)

/-! ProofHouse$Reader.atomCell -/
theorem dX5_atomCell_0 : decode cX5_atomCell 0 = .ok (.lconst 0, 1) := by decide +kernel
theorem dX5_atomCell_1 : decode cX5_atomCell 1 = .ok (.lstore 4, 2) := by decide +kernel
theorem dX5_atomCell_3 : decode cX5_atomCell 3 = .ok (.lconst 0, 1) := by decide +kernel
theorem dX5_atomCell_4 : decode cX5_atomCell 4 = .ok (.lstore 6, 2) := by decide +kernel
theorem dX5_atomCell_6 : decode cX5_atomCell 6 = .ok (.iconst 1, 1) := by decide +kernel
theorem dX5_atomCell_7 : decode cX5_atomCell 7 = .ok (.istore 8, 2) := by decide +kernel
theorem dX5_atomCell_9 : decode cX5_atomCell 9 = .ok (.iconst 0, 1) := by decide +kernel
theorem dX5_atomCell_10 : decode cX5_atomCell 10 = .ok (.istore 9, 2) := by decide +kernel
theorem dX5_atomCell_12 : decode cX5_atomCell 12 = .ok (.iload_n 2, 1) := by decide +kernel
theorem dX5_atomCell_13 : decode cX5_atomCell 13 = .ok (.istore 10, 2) := by decide +kernel
theorem dX5_atomCell_15 : decode cX5_atomCell 15 = .ok (.iload 10, 2) := by decide +kernel
theorem dX5_atomCell_17 : decode cX5_atomCell 17 = .ok (.iload_n 3, 1) := by decide +kernel
theorem dX5_atomCell_18 : decode cX5_atomCell 18 = .ok (.if_icmp .ge 120, 3) := by decide +kernel
theorem dX5_atomCell_21 : decode cX5_atomCell 21 = .ok (.aload_n 1, 1) := by decide +kernel
theorem dX5_atomCell_22 : decode cX5_atomCell 22 = .ok (.iload 10, 2) := by decide +kernel
theorem dX5_atomCell_24 : decode cX5_atomCell 24 = .ok (.caload, 1) := by decide +kernel
theorem dX5_atomCell_25 : decode cX5_atomCell 25 = .ok (.istore 11, 2) := by decide +kernel
theorem dX5_atomCell_27 : decode cX5_atomCell 27 = .ok (.iload 11, 2) := by decide +kernel
theorem dX5_atomCell_29 : decode cX5_atomCell 29 = .ok (.bipush 48, 2) := by decide +kernel
theorem dX5_atomCell_31 : decode cX5_atomCell 31 = .ok (.isub, 1) := by decide +kernel
theorem dX5_atomCell_32 : decode cX5_atomCell 32 = .ok (.istore 12, 2) := by decide +kernel
theorem dX5_atomCell_34 : decode cX5_atomCell 34 = .ok (.iload 8, 2) := by decide +kernel
theorem dX5_atomCell_36 : decode cX5_atomCell 36 = .ok (.ifCond .eq 21, 3) := by decide +kernel
theorem dX5_atomCell_39 : decode cX5_atomCell 39 = .ok (.iload 11, 2) := by decide +kernel
theorem dX5_atomCell_41 : decode cX5_atomCell 41 = .ok (.bipush 48, 2) := by decide +kernel
theorem dX5_atomCell_43 : decode cX5_atomCell 43 = .ok (.if_icmp .lt 14, 3) := by decide +kernel
theorem dX5_atomCell_46 : decode cX5_atomCell 46 = .ok (.iload 11, 2) := by decide +kernel
theorem dX5_atomCell_48 : decode cX5_atomCell 48 = .ok (.bipush 57, 2) := by decide +kernel
theorem dX5_atomCell_50 : decode cX5_atomCell 50 = .ok (.if_icmp .gt 7, 3) := by decide +kernel
theorem dX5_atomCell_53 : decode cX5_atomCell 53 = .ok (.iconst 1, 1) := by decide +kernel
theorem dX5_atomCell_54 : decode cX5_atomCell 54 = .ok (.goto 4, 3) := by decide +kernel
theorem dX5_atomCell_57 : decode cX5_atomCell 57 = .ok (.iconst 0, 1) := by decide +kernel
theorem dX5_atomCell_58 : decode cX5_atomCell 58 = .ok (.istore 8, 2) := by decide +kernel
theorem dX5_atomCell_60 : decode cX5_atomCell 60 = .ok (.iload 8, 2) := by decide +kernel
theorem dX5_atomCell_62 : decode cX5_atomCell 62 = .ok (.ifCond .eq 53, 3) := by decide +kernel
theorem dX5_atomCell_65 : decode cX5_atomCell 65 = .ok (.iload 9, 2) := by decide +kernel
theorem dX5_atomCell_67 : decode cX5_atomCell 67 = .ok (.ifCond .ne 20, 3) := by decide +kernel
theorem dX5_atomCell_70 : decode cX5_atomCell 70 = .ok (.lload 4, 2) := by decide +kernel
theorem dX5_atomCell_72 : decode cX5_atomCell 72 = .ok (.ldc2_w 99, 3) := by decide +kernel
theorem dX5_atomCell_75 : decode cX5_atomCell 75 = .ok (.iload 12, 2) := by decide +kernel
theorem dX5_atomCell_77 : decode cX5_atomCell 77 = .ok (.i2l, 1) := by decide +kernel
theorem dX5_atomCell_78 : decode cX5_atomCell 78 = .ok (.lsub, 1) := by decide +kernel
theorem dX5_atomCell_79 : decode cX5_atomCell 79 = .ok (.ldc2_w 101, 3) := by decide +kernel
theorem dX5_atomCell_82 : decode cX5_atomCell 82 = .ok (.ldiv, 1) := by decide +kernel
theorem dX5_atomCell_83 : decode cX5_atomCell 83 = .ok (.lcmp, 1) := by decide +kernel
theorem dX5_atomCell_84 : decode cX5_atomCell 84 = .ok (.ifCond .le 7, 3) := by decide +kernel
theorem dX5_atomCell_87 : decode cX5_atomCell 87 = .ok (.iconst 1, 1) := by decide +kernel
theorem dX5_atomCell_88 : decode cX5_atomCell 88 = .ok (.goto 4, 3) := by decide +kernel
theorem dX5_atomCell_91 : decode cX5_atomCell 91 = .ok (.iconst 0, 1) := by decide +kernel
theorem dX5_atomCell_92 : decode cX5_atomCell 92 = .ok (.istore 9, 2) := by decide +kernel
theorem dX5_atomCell_94 : decode cX5_atomCell 94 = .ok (.iload 9, 2) := by decide +kernel
theorem dX5_atomCell_96 : decode cX5_atomCell 96 = .ok (.ifCond .eq 7, 3) := by decide +kernel
theorem dX5_atomCell_99 : decode cX5_atomCell 99 = .ok (.lconst 0, 1) := by decide +kernel
theorem dX5_atomCell_100 : decode cX5_atomCell 100 = .ok (.goto 13, 3) := by decide +kernel
theorem dX5_atomCell_103 : decode cX5_atomCell 103 = .ok (.lload 4, 2) := by decide +kernel
theorem dX5_atomCell_105 : decode cX5_atomCell 105 = .ok (.ldc2_w 101, 3) := by decide +kernel
theorem dX5_atomCell_108 : decode cX5_atomCell 108 = .ok (.lmul, 1) := by decide +kernel
theorem dX5_atomCell_109 : decode cX5_atomCell 109 = .ok (.iload 12, 2) := by decide +kernel
theorem dX5_atomCell_111 : decode cX5_atomCell 111 = .ok (.i2l, 1) := by decide +kernel
theorem dX5_atomCell_112 : decode cX5_atomCell 112 = .ok (.ladd, 1) := by decide +kernel
theorem dX5_atomCell_113 : decode cX5_atomCell 113 = .ok (.lstore 4, 2) := by decide +kernel
theorem dX5_atomCell_115 : decode cX5_atomCell 115 = .ok (.lload 6, 2) := by decide +kernel
theorem dX5_atomCell_117 : decode cX5_atomCell 117 = .ok (.ldc2_w 103, 3) := by decide +kernel
theorem dX5_atomCell_120 : decode cX5_atomCell 120 = .ok (.lmul, 1) := by decide +kernel
theorem dX5_atomCell_121 : decode cX5_atomCell 121 = .ok (.ldc 64, 2) := by decide +kernel
theorem dX5_atomCell_123 : decode cX5_atomCell 123 = .ok (.iload 11, 2) := by decide +kernel
theorem dX5_atomCell_125 : decode cX5_atomCell 125 = .ok (.invokevirtual 66, 3) := by decide +kernel
theorem dX5_atomCell_128 : decode cX5_atomCell 128 = .ok (.i2l, 1) := by decide +kernel
theorem dX5_atomCell_129 : decode cX5_atomCell 129 = .ok (.ladd, 1) := by decide +kernel
theorem dX5_atomCell_130 : decode cX5_atomCell 130 = .ok (.lstore 6, 2) := by decide +kernel
theorem dX5_atomCell_132 : decode cX5_atomCell 132 = .ok (.iinc 10 1, 3) := by decide +kernel
theorem dX5_atomCell_135 : decode cX5_atomCell 135 = .ok (.goto (-120), 3) := by decide +kernel
theorem dX5_atomCell_138 : decode cX5_atomCell 138 = .ok (.iload 8, 2) := by decide +kernel
theorem dX5_atomCell_140 : decode cX5_atomCell 140 = .ok (.ifCond .eq 17, 3) := by decide +kernel
theorem dX5_atomCell_143 : decode cX5_atomCell 143 = .ok (.iload 9, 2) := by decide +kernel
theorem dX5_atomCell_145 : decode cX5_atomCell 145 = .ok (.ifCond .eq 9, 3) := by decide +kernel
theorem dX5_atomCell_148 : decode cX5_atomCell 148 = .ok (.ldc2_w 79, 3) := by decide +kernel
theorem dX5_atomCell_151 : decode cX5_atomCell 151 = .ok (.goto 5, 3) := by decide +kernel
theorem dX5_atomCell_154 : decode cX5_atomCell 154 = .ok (.lload 4, 2) := by decide +kernel
theorem dX5_atomCell_156 : decode cX5_atomCell 156 = .ok (.lreturn, 1) := by decide +kernel
theorem dX5_atomCell_157 : decode cX5_atomCell 157 = .ok (.iload_n 3, 1) := by decide +kernel
theorem dX5_atomCell_158 : decode cX5_atomCell 158 = .ok (.iload_n 2, 1) := by decide +kernel
theorem dX5_atomCell_159 : decode cX5_atomCell 159 = .ok (.isub, 1) := by decide +kernel
theorem dX5_atomCell_160 : decode cX5_atomCell 160 = .ok (.bipush 11, 2) := by decide +kernel
theorem dX5_atomCell_162 : decode cX5_atomCell 162 = .ok (.if_icmp .le 9, 3) := by decide +kernel
theorem dX5_atomCell_165 : decode cX5_atomCell 165 = .ok (.ldc2_w 79, 3) := by decide +kernel
theorem dX5_atomCell_168 : decode cX5_atomCell 168 = .ok (.goto 9, 3) := by decide +kernel
theorem dX5_atomCell_171 : decode cX5_atomCell 171 = .ok (.ldc2_w 105, 3) := by decide +kernel
theorem dX5_atomCell_174 : decode cX5_atomCell 174 = .ok (.lload 6, 2) := by decide +kernel
theorem dX5_atomCell_176 : decode cX5_atomCell 176 = .ok (.lor, 1) := by decide +kernel
theorem dX5_atomCell_177 : decode cX5_atomCell 177 = .ok (.lreturn, 1) := by decide +kernel

section
variable {p : Program} {l : Launch} {e : Env} {R : Room} {s : State} {m : MethodId} {args : Array Value} {below : List Frame} {meth : Method} {c : Code} {H : Heap} {locs : List Loc} {Qf : State → Prop}
variable {ls : Array Slot} {D : va_G} {ca : Nat → ClassId} {A : Nat → Prop} {ad : Nat → Nat → Nat} {u : iST}
def v_5_atomCell_115 (R15 : Int → Int → Int → Int → Int → Int → Int → iST → Prop) (Q : Int → iST → Prop) (x2 : Int) (x3 : Int) (x4 : Int) (x6 : Int) (x8 : Int) (x9 : Int) (x10 : Int) (x11 : Int) (u : iST) : Prop :=
  rl (wlmul x6 47) (fun v5 => 
  ri x11 (fun v6 => 
  rl (wladd v5 v6) (fun v8 => 
  ov (x10 + 1) (
  R15 x2 x3 x4 v8 x8 x9 (x10 + 1) u))))
set_option maxRecDepth 20000 in
set_option maxHeartbeats 4000000 in
theorem f_5_atomCell_115 (X : yX RX5 p m c cX5_atomCell 13 s args D ca ad A) (hRf : 6 ≤ R.frames) (hRl : 200 ≤ R.locals) {Q : Int → iST → Prop} (hret : ∀ (v : Int) (u : iST) (H : Heap) (locs : List Loc) (ls : Array Slot) (pc : Nat), inL v → Q v u → yW D ca A ad s H locs u → decode cX5_atomCell pc = .ok (.lreturn, 1) → W p l e R s m args below meth c H locs 0 0 Qf (F0 m pc ls [.long (jL v)])) {R15 : Int → Int → Int → Int → Int → Int → Int → iST → Prop} (hR15 : ∀ (x2 : Int) (x3 : Int) (x4 : Int) (x6 : Int) (x8 : Int) (x9 : Int) (x10 : Int) (u : iST) (H : Heap) (locs : List Loc) (ls : Array Slot), inR x2 → inR x3 → inL x4 → inL x6 → inR x8 → inR x9 → inR x10 → yW D ca A ad s H locs u → lv_has ls 13 [(0, .ref (ad 0 4)), (1, .ref (ad 1 44)), (2, .int (jI x2)), (3, .int (jI x3)), (4, .long (jL x4)), (6, .long (jL x6)), (8, .int (jI x8)), (9, .int (jI x9)), (10, .int (jI x10))] → R15 x2 x3 x4 x6 x8 x9 x10 u → W p l e R s m args below meth c H locs 0 0 Qf (F0 m 15 ls [])) {x2 x3 x4 x6 x8 x9 x10 x11 : Int} (rx2 : inR x2) (rx3 : inR x3) (rx4 : inL x4) (rx6 : inL x6) (rx8 : inR x8) (rx9 : inR x9) (rx10 : inR x10) (rx11 : inR x11) (hw : yW D ca A ad s H locs u) (hl : lv_has ls 13 [(0, .ref (ad 0 4)), (1, .ref (ad 1 44)), (2, .int (jI x2)), (3, .int (jI x3)), (4, .long (jL x4)), (6, .long (jL x6)), (8, .int (jI x8)), (9, .int (jI x9)), (10, .int (jI x10)), (11, .int (jI x11))]) (h : v_5_atomCell_115 R15 Q x2 x3 x4 x6 x8 x9 x10 x11 u) : W p l e R s m args below meth c H locs 0 0 Qf (F0 m 115 ls []) := by
  have hx := X.1.1
  have hb := X.1.2.1
  unfold v_5_atomCell_115 at h
  refine lv_lload hx hb dX5_atomCell_115 (lv_at hl 5 rfl) ?_
  refine yld2 103 yK_5_103 X dX5_atomCell_117 ?_
  refine k_wlmul hx hb dX5_atomCell_120 h (fun v5 rv5 h => ?_)
  refine ySt_5_64 X hw dX5_atomCell_121 ?_
  refine lv_iload hx hb dX5_atomCell_123 (lv_at hl 9 rfl) ?_
  refine yIdx_5_66 X hw rx11 hl.1 (Nat.le_of_ble_eq_true rfl) (Nat.le_trans (Nat.le_of_ble_eq_true rfl) hRf) (Nat.le_trans (Nat.le_of_ble_eq_true rfl) hRl) dX5_atomCell_125 h (fun v6 H locs rv6 hw h => ?_)
  refine k_i2l hx hb rv6 dX5_atomCell_128 (fun r7 => ?_)
  refine k_wladd hx hb dX5_atomCell_129 h (fun v8 rv8 h => ?_)
  refine lv_lstore hx hb dX5_atomCell_130 hl (by decide) rfl (fun ls hl => ?_)
  have hl : lv_has ls 13 [(6, .long (jL v8)), (0, .ref (ad 0 4)), (1, .ref (ad 1 44)), (2, .int (jI x2)), (3, .int (jI x3)), (4, .long (jL x4)), (8, .int (jI x8)), (9, .int (jI x9)), (10, .int (jI x10)), (11, .int (jI x11))] := hl
  refine k_iinc (k := 8) hx hb dX5_atomCell_132 hl rfl (by decide) rfl h (fun ls r9 h hl => ?_)
  have hl : lv_has ls 13 [(10, .int (jI (x10 + 1))), (6, .long (jL v8)), (0, .ref (ad 0 4)), (1, .ref (ad 1 44)), (2, .int (jI x2)), (3, .int (jI x3)), (4, .long (jL x4)), (8, .int (jI x8)), (9, .int (jI x9)), (11, .int (jI x11))] := hl
  refine lv_goto hx hb dX5_atomCell_135 (tgt := 15) rfl ?_
  exact hR15 _ _ _ _ _ _ _ _ H locs ls rx2 rx3 rx4 rv8 rx8 rx9 r9 hw (lv_sub hl [2, 3, 4, 5, 6, 1, 7, 8, 0] rfl) h

def v_5_atomCell_113 (R15 : Int → Int → Int → Int → Int → Int → Int → iST → Prop) (Q : Int → iST → Prop) (x2 : Int) (x3 : Int) (x6 : Int) (x8 : Int) (x9 : Int) (x10 : Int) (x11 : Int) (y0 : Int) (u : iST) : Prop :=
  v_5_atomCell_115 R15 Q x2 x3 y0 x6 x8 x9 x10 x11 u
set_option maxRecDepth 20000 in
set_option maxHeartbeats 4000000 in
theorem f_5_atomCell_113 (X : yX RX5 p m c cX5_atomCell 13 s args D ca ad A) (hRf : 6 ≤ R.frames) (hRl : 200 ≤ R.locals) {Q : Int → iST → Prop} (hret : ∀ (v : Int) (u : iST) (H : Heap) (locs : List Loc) (ls : Array Slot) (pc : Nat), inL v → Q v u → yW D ca A ad s H locs u → decode cX5_atomCell pc = .ok (.lreturn, 1) → W p l e R s m args below meth c H locs 0 0 Qf (F0 m pc ls [.long (jL v)])) {R15 : Int → Int → Int → Int → Int → Int → Int → iST → Prop} (hR15 : ∀ (x2 : Int) (x3 : Int) (x4 : Int) (x6 : Int) (x8 : Int) (x9 : Int) (x10 : Int) (u : iST) (H : Heap) (locs : List Loc) (ls : Array Slot), inR x2 → inR x3 → inL x4 → inL x6 → inR x8 → inR x9 → inR x10 → yW D ca A ad s H locs u → lv_has ls 13 [(0, .ref (ad 0 4)), (1, .ref (ad 1 44)), (2, .int (jI x2)), (3, .int (jI x3)), (4, .long (jL x4)), (6, .long (jL x6)), (8, .int (jI x8)), (9, .int (jI x9)), (10, .int (jI x10))] → R15 x2 x3 x4 x6 x8 x9 x10 u → W p l e R s m args below meth c H locs 0 0 Qf (F0 m 15 ls [])) {x2 x3 x6 x8 x9 x10 x11 y0 : Int} (rx2 : inR x2) (rx3 : inR x3) (rx6 : inL x6) (rx8 : inR x8) (rx9 : inR x9) (rx10 : inR x10) (rx11 : inR x11) (ry0 : inL y0) (hw : yW D ca A ad s H locs u) (hl : lv_has ls 13 [(0, .ref (ad 0 4)), (1, .ref (ad 1 44)), (2, .int (jI x2)), (3, .int (jI x3)), (6, .long (jL x6)), (8, .int (jI x8)), (9, .int (jI x9)), (10, .int (jI x10)), (11, .int (jI x11))]) (h : v_5_atomCell_113 R15 Q x2 x3 x6 x8 x9 x10 x11 y0 u) : W p l e R s m args below meth c H locs 0 0 Qf (F0 m 113 ls [.long (jL y0)]) := by
  have hx := X.1.1
  have hb := X.1.2.1
  unfold v_5_atomCell_113 at h
  refine lv_lstore hx hb dX5_atomCell_113 hl (by decide) rfl (fun ls hl => ?_)
  have hl : lv_has ls 13 [(4, .long (jL y0)), (0, .ref (ad 0 4)), (1, .ref (ad 1 44)), (2, .int (jI x2)), (3, .int (jI x3)), (6, .long (jL x6)), (8, .int (jI x8)), (9, .int (jI x9)), (10, .int (jI x10)), (11, .int (jI x11))] := hl
  exact f_5_atomCell_115 X hRf hRl hret hR15 rx2 rx3 ry0 rx6 rx8 rx9 rx10 rx11 hw (lv_sub hl [1, 2, 3, 4, 0, 5, 6, 7, 8, 9] rfl) h

def v_5_atomCell_92 (R15 : Int → Int → Int → Int → Int → Int → Int → iST → Prop) (Q : Int → iST → Prop) (x2 : Int) (x3 : Int) (x4 : Int) (x6 : Int) (x8 : Int) (x10 : Int) (x11 : Int) (x12 : Int) (y0 : Int) (u : iST) : Prop :=
  br (y0 = 0) (
    rl (wlmul x4 10) (fun v10 => 
    rl (wladd v10 x12) (fun v12 => 
    v_5_atomCell_113 R15 Q x2 x3 x6 x8 y0 x10 x11 v12 u))) (
    v_5_atomCell_113 R15 Q x2 x3 x6 x8 y0 x10 x11 0 u)
set_option maxRecDepth 20000 in
set_option maxHeartbeats 4000000 in
theorem f_5_atomCell_92 (X : yX RX5 p m c cX5_atomCell 13 s args D ca ad A) (hRf : 6 ≤ R.frames) (hRl : 200 ≤ R.locals) {Q : Int → iST → Prop} (hret : ∀ (v : Int) (u : iST) (H : Heap) (locs : List Loc) (ls : Array Slot) (pc : Nat), inL v → Q v u → yW D ca A ad s H locs u → decode cX5_atomCell pc = .ok (.lreturn, 1) → W p l e R s m args below meth c H locs 0 0 Qf (F0 m pc ls [.long (jL v)])) {R15 : Int → Int → Int → Int → Int → Int → Int → iST → Prop} (hR15 : ∀ (x2 : Int) (x3 : Int) (x4 : Int) (x6 : Int) (x8 : Int) (x9 : Int) (x10 : Int) (u : iST) (H : Heap) (locs : List Loc) (ls : Array Slot), inR x2 → inR x3 → inL x4 → inL x6 → inR x8 → inR x9 → inR x10 → yW D ca A ad s H locs u → lv_has ls 13 [(0, .ref (ad 0 4)), (1, .ref (ad 1 44)), (2, .int (jI x2)), (3, .int (jI x3)), (4, .long (jL x4)), (6, .long (jL x6)), (8, .int (jI x8)), (9, .int (jI x9)), (10, .int (jI x10))] → R15 x2 x3 x4 x6 x8 x9 x10 u → W p l e R s m args below meth c H locs 0 0 Qf (F0 m 15 ls [])) {x2 x3 x4 x6 x8 x10 x11 x12 y0 : Int} (rx2 : inR x2) (rx3 : inR x3) (rx4 : inL x4) (rx6 : inL x6) (rx8 : inR x8) (rx10 : inR x10) (rx11 : inR x11) (rx12 : inR x12) (ry0 : inR y0) (hw : yW D ca A ad s H locs u) (hl : lv_has ls 13 [(0, .ref (ad 0 4)), (1, .ref (ad 1 44)), (2, .int (jI x2)), (3, .int (jI x3)), (4, .long (jL x4)), (6, .long (jL x6)), (8, .int (jI x8)), (10, .int (jI x10)), (11, .int (jI x11)), (12, .int (jI x12))]) (h : v_5_atomCell_92 R15 Q x2 x3 x4 x6 x8 x10 x11 x12 y0 u) : W p l e R s m args below meth c H locs 0 0 Qf (F0 m 92 ls [.int (jI y0)]) := by
  have hx := X.1.1
  have hb := X.1.2.1
  unfold v_5_atomCell_92 at h
  refine lv_istore hx hb dX5_atomCell_92 hl (by decide) rfl (fun ls hl => ?_)
  have hl : lv_has ls 13 [(9, .int (jI y0)), (0, .ref (ad 0 4)), (1, .ref (ad 1 44)), (2, .int (jI x2)), (3, .int (jI x3)), (4, .long (jL x4)), (6, .long (jL x6)), (8, .int (jI x8)), (10, .int (jI x10)), (11, .int (jI x11)), (12, .int (jI x12))] := hl
  refine lv_iload hx hb dX5_atomCell_94 (lv_at hl 0 rfl) ?_
  refine k_if_eq hx hb ry0 dX5_atomCell_96 (tgt := 103) rfl h (fun h => ?_) (fun h => ?_)
  · refine lv_lload hx hb dX5_atomCell_103 (lv_at hl 5 rfl) ?_
    refine yld2 101 yK_5_101 X dX5_atomCell_105 ?_
    refine k_wlmul hx hb dX5_atomCell_108 h (fun v10 rv10 h => ?_)
    refine lv_iload hx hb dX5_atomCell_109 (lv_at hl 10 rfl) ?_
    refine k_i2l hx hb rx12 dX5_atomCell_111 (fun r11 => ?_)
    refine k_wladd hx hb dX5_atomCell_112 h (fun v12 rv12 h => ?_)
    exact f_5_atomCell_113 X hRf hRl hret hR15 rx2 rx3 rx6 rx8 ry0 rx10 rx11 rv12 hw (lv_sub hl [1, 2, 3, 4, 6, 7, 0, 8, 9] rfl) h
  · refine lv_lconst hx hb dX5_atomCell_99 (v := jL 0) rfl ?_
    refine lv_goto hx hb dX5_atomCell_100 (tgt := 113) rfl ?_
    exact f_5_atomCell_113 X hRf hRl hret hR15 rx2 rx3 rx6 rx8 ry0 rx10 rx11 (by decide) hw (lv_sub hl [1, 2, 3, 4, 6, 7, 0, 8, 9] rfl) h

def v_5_atomCell_87 (R15 : Int → Int → Int → Int → Int → Int → Int → iST → Prop) (Q : Int → iST → Prop) (x2 : Int) (x3 : Int) (x4 : Int) (x6 : Int) (x8 : Int) (x10 : Int) (x11 : Int) (x12 : Int) (u : iST) : Prop :=
  v_5_atomCell_92 R15 Q x2 x3 x4 x6 x8 x10 x11 x12 1 u
set_option maxRecDepth 20000 in
set_option maxHeartbeats 4000000 in
theorem f_5_atomCell_87 (X : yX RX5 p m c cX5_atomCell 13 s args D ca ad A) (hRf : 6 ≤ R.frames) (hRl : 200 ≤ R.locals) {Q : Int → iST → Prop} (hret : ∀ (v : Int) (u : iST) (H : Heap) (locs : List Loc) (ls : Array Slot) (pc : Nat), inL v → Q v u → yW D ca A ad s H locs u → decode cX5_atomCell pc = .ok (.lreturn, 1) → W p l e R s m args below meth c H locs 0 0 Qf (F0 m pc ls [.long (jL v)])) {R15 : Int → Int → Int → Int → Int → Int → Int → iST → Prop} (hR15 : ∀ (x2 : Int) (x3 : Int) (x4 : Int) (x6 : Int) (x8 : Int) (x9 : Int) (x10 : Int) (u : iST) (H : Heap) (locs : List Loc) (ls : Array Slot), inR x2 → inR x3 → inL x4 → inL x6 → inR x8 → inR x9 → inR x10 → yW D ca A ad s H locs u → lv_has ls 13 [(0, .ref (ad 0 4)), (1, .ref (ad 1 44)), (2, .int (jI x2)), (3, .int (jI x3)), (4, .long (jL x4)), (6, .long (jL x6)), (8, .int (jI x8)), (9, .int (jI x9)), (10, .int (jI x10))] → R15 x2 x3 x4 x6 x8 x9 x10 u → W p l e R s m args below meth c H locs 0 0 Qf (F0 m 15 ls [])) {x2 x3 x4 x6 x8 x10 x11 x12 : Int} (rx2 : inR x2) (rx3 : inR x3) (rx4 : inL x4) (rx6 : inL x6) (rx8 : inR x8) (rx10 : inR x10) (rx11 : inR x11) (rx12 : inR x12) (hw : yW D ca A ad s H locs u) (hl : lv_has ls 13 [(0, .ref (ad 0 4)), (1, .ref (ad 1 44)), (2, .int (jI x2)), (3, .int (jI x3)), (4, .long (jL x4)), (6, .long (jL x6)), (8, .int (jI x8)), (10, .int (jI x10)), (11, .int (jI x11)), (12, .int (jI x12))]) (h : v_5_atomCell_87 R15 Q x2 x3 x4 x6 x8 x10 x11 x12 u) : W p l e R s m args below meth c H locs 0 0 Qf (F0 m 87 ls []) := by
  have hx := X.1.1
  have hb := X.1.2.1
  unfold v_5_atomCell_87 at h
  refine lv_iconst hx hb dX5_atomCell_87 (v := jI 1) rfl ?_
  refine lv_goto hx hb dX5_atomCell_88 (tgt := 92) rfl ?_
  exact f_5_atomCell_92 X hRf hRl hret hR15 rx2 rx3 rx4 rx6 rx8 rx10 rx11 rx12 (by decide) hw hl h

def v_5_atomCell_58 (R15 : Int → Int → Int → Int → Int → Int → Int → iST → Prop) (Q : Int → iST → Prop) (x2 : Int) (x3 : Int) (x4 : Int) (x6 : Int) (x9 : Int) (x10 : Int) (x11 : Int) (x12 : Int) (y0 : Int) (u : iST) : Prop :=
  br (y0 = 0) (
    v_5_atomCell_115 R15 Q x2 x3 x4 x6 y0 x9 x10 x11 u) (
    br (x9 ≠ 0) (
      v_5_atomCell_87 R15 Q x2 x3 x4 x6 y0 x10 x11 x12 u) (
      rl (wlsub 4611686018427387903 x12) (fun v14 => 
      (0 : Int) < 10 ∧ (
      br (x4 ≤ (Int.tdiv v14 10)) (
        v_5_atomCell_92 R15 Q x2 x3 x4 x6 y0 x10 x11 x12 0 u) (
        v_5_atomCell_87 R15 Q x2 x3 x4 x6 y0 x10 x11 x12 u)))))
set_option maxRecDepth 20000 in
set_option maxHeartbeats 4000000 in
theorem f_5_atomCell_58 (X : yX RX5 p m c cX5_atomCell 13 s args D ca ad A) (hRf : 6 ≤ R.frames) (hRl : 200 ≤ R.locals) {Q : Int → iST → Prop} (hret : ∀ (v : Int) (u : iST) (H : Heap) (locs : List Loc) (ls : Array Slot) (pc : Nat), inL v → Q v u → yW D ca A ad s H locs u → decode cX5_atomCell pc = .ok (.lreturn, 1) → W p l e R s m args below meth c H locs 0 0 Qf (F0 m pc ls [.long (jL v)])) {R15 : Int → Int → Int → Int → Int → Int → Int → iST → Prop} (hR15 : ∀ (x2 : Int) (x3 : Int) (x4 : Int) (x6 : Int) (x8 : Int) (x9 : Int) (x10 : Int) (u : iST) (H : Heap) (locs : List Loc) (ls : Array Slot), inR x2 → inR x3 → inL x4 → inL x6 → inR x8 → inR x9 → inR x10 → yW D ca A ad s H locs u → lv_has ls 13 [(0, .ref (ad 0 4)), (1, .ref (ad 1 44)), (2, .int (jI x2)), (3, .int (jI x3)), (4, .long (jL x4)), (6, .long (jL x6)), (8, .int (jI x8)), (9, .int (jI x9)), (10, .int (jI x10))] → R15 x2 x3 x4 x6 x8 x9 x10 u → W p l e R s m args below meth c H locs 0 0 Qf (F0 m 15 ls [])) {x2 x3 x4 x6 x9 x10 x11 x12 y0 : Int} (rx2 : inR x2) (rx3 : inR x3) (rx4 : inL x4) (rx6 : inL x6) (rx9 : inR x9) (rx10 : inR x10) (rx11 : inR x11) (rx12 : inR x12) (ry0 : inR y0) (hw : yW D ca A ad s H locs u) (hl : lv_has ls 13 [(0, .ref (ad 0 4)), (1, .ref (ad 1 44)), (2, .int (jI x2)), (3, .int (jI x3)), (4, .long (jL x4)), (6, .long (jL x6)), (9, .int (jI x9)), (10, .int (jI x10)), (11, .int (jI x11)), (12, .int (jI x12))]) (h : v_5_atomCell_58 R15 Q x2 x3 x4 x6 x9 x10 x11 x12 y0 u) : W p l e R s m args below meth c H locs 0 0 Qf (F0 m 58 ls [.int (jI y0)]) := by
  have hx := X.1.1
  have hb := X.1.2.1
  unfold v_5_atomCell_58 at h
  refine lv_istore hx hb dX5_atomCell_58 hl (by decide) rfl (fun ls hl => ?_)
  have hl : lv_has ls 13 [(8, .int (jI y0)), (0, .ref (ad 0 4)), (1, .ref (ad 1 44)), (2, .int (jI x2)), (3, .int (jI x3)), (4, .long (jL x4)), (6, .long (jL x6)), (9, .int (jI x9)), (10, .int (jI x10)), (11, .int (jI x11)), (12, .int (jI x12))] := hl
  refine lv_iload hx hb dX5_atomCell_60 (lv_at hl 0 rfl) ?_
  refine k_if_eq hx hb ry0 dX5_atomCell_62 (tgt := 115) rfl h (fun h => ?_) (fun h => ?_)
  · exact f_5_atomCell_115 X hRf hRl hret hR15 rx2 rx3 rx4 rx6 ry0 rx9 rx10 rx11 hw (lv_sub hl [1, 2, 3, 4, 5, 6, 0, 7, 8, 9] rfl) h
  · refine lv_iload hx hb dX5_atomCell_65 (lv_at hl 7 rfl) ?_
    refine k_if_ne hx hb rx9 dX5_atomCell_67 (tgt := 87) rfl h (fun h => ?_) (fun h => ?_)
    · exact f_5_atomCell_87 X hRf hRl hret hR15 rx2 rx3 rx4 rx6 ry0 rx10 rx11 rx12 hw (lv_sub hl [1, 2, 3, 4, 5, 6, 0, 8, 9, 10] rfl) h
    · refine lv_lload hx hb dX5_atomCell_70 (lv_at hl 5 rfl) ?_
      refine yld2 99 yK_5_99 X dX5_atomCell_72 ?_
      refine lv_iload hx hb dX5_atomCell_75 (lv_at hl 10 rfl) ?_
      refine k_i2l hx hb rx12 dX5_atomCell_77 (fun r13 => ?_)
      refine k_wlsub hx hb dX5_atomCell_78 h (fun v14 rv14 h => ?_)
      refine yld2 101 yK_5_101 X dX5_atomCell_79 ?_
      refine k_ldiv hx hb rv14 (by decide) dX5_atomCell_82 h (fun r15 h => ?_)
      refine k_lcmp_le hx hb rx4 r15 dX5_atomCell_83 dX5_atomCell_84 (tgt := 91) rfl h (fun h => ?_) (fun h => ?_)
      · refine lv_iconst hx hb dX5_atomCell_91 (v := jI 0) rfl ?_
        exact f_5_atomCell_92 X hRf hRl hret hR15 rx2 rx3 rx4 rx6 ry0 rx10 rx11 rx12 (by decide) hw (lv_sub hl [1, 2, 3, 4, 5, 6, 0, 8, 9, 10] rfl) h
      · exact f_5_atomCell_87 X hRf hRl hret hR15 rx2 rx3 rx4 rx6 ry0 rx10 rx11 rx12 hw (lv_sub hl [1, 2, 3, 4, 5, 6, 0, 8, 9, 10] rfl) h

def v_5_atomCell_57 (R15 : Int → Int → Int → Int → Int → Int → Int → iST → Prop) (Q : Int → iST → Prop) (x2 : Int) (x3 : Int) (x4 : Int) (x6 : Int) (x9 : Int) (x10 : Int) (x11 : Int) (x12 : Int) (u : iST) : Prop :=
  v_5_atomCell_58 R15 Q x2 x3 x4 x6 x9 x10 x11 x12 0 u
set_option maxRecDepth 20000 in
set_option maxHeartbeats 4000000 in
theorem f_5_atomCell_57 (X : yX RX5 p m c cX5_atomCell 13 s args D ca ad A) (hRf : 6 ≤ R.frames) (hRl : 200 ≤ R.locals) {Q : Int → iST → Prop} (hret : ∀ (v : Int) (u : iST) (H : Heap) (locs : List Loc) (ls : Array Slot) (pc : Nat), inL v → Q v u → yW D ca A ad s H locs u → decode cX5_atomCell pc = .ok (.lreturn, 1) → W p l e R s m args below meth c H locs 0 0 Qf (F0 m pc ls [.long (jL v)])) {R15 : Int → Int → Int → Int → Int → Int → Int → iST → Prop} (hR15 : ∀ (x2 : Int) (x3 : Int) (x4 : Int) (x6 : Int) (x8 : Int) (x9 : Int) (x10 : Int) (u : iST) (H : Heap) (locs : List Loc) (ls : Array Slot), inR x2 → inR x3 → inL x4 → inL x6 → inR x8 → inR x9 → inR x10 → yW D ca A ad s H locs u → lv_has ls 13 [(0, .ref (ad 0 4)), (1, .ref (ad 1 44)), (2, .int (jI x2)), (3, .int (jI x3)), (4, .long (jL x4)), (6, .long (jL x6)), (8, .int (jI x8)), (9, .int (jI x9)), (10, .int (jI x10))] → R15 x2 x3 x4 x6 x8 x9 x10 u → W p l e R s m args below meth c H locs 0 0 Qf (F0 m 15 ls [])) {x2 x3 x4 x6 x9 x10 x11 x12 : Int} (rx2 : inR x2) (rx3 : inR x3) (rx4 : inL x4) (rx6 : inL x6) (rx9 : inR x9) (rx10 : inR x10) (rx11 : inR x11) (rx12 : inR x12) (hw : yW D ca A ad s H locs u) (hl : lv_has ls 13 [(0, .ref (ad 0 4)), (1, .ref (ad 1 44)), (2, .int (jI x2)), (3, .int (jI x3)), (4, .long (jL x4)), (6, .long (jL x6)), (9, .int (jI x9)), (10, .int (jI x10)), (11, .int (jI x11)), (12, .int (jI x12))]) (h : v_5_atomCell_57 R15 Q x2 x3 x4 x6 x9 x10 x11 x12 u) : W p l e R s m args below meth c H locs 0 0 Qf (F0 m 57 ls []) := by
  have hx := X.1.1
  have hb := X.1.2.1
  unfold v_5_atomCell_57 at h
  refine lv_iconst hx hb dX5_atomCell_57 (v := jI 0) rfl ?_
  exact f_5_atomCell_58 X hRf hRl hret hR15 rx2 rx3 rx4 rx6 rx9 rx10 rx11 rx12 (by decide) hw hl h

def v_5_atomCell_15b (R15 : Int → Int → Int → Int → Int → Int → Int → iST → Prop) (Q : Int → iST → Prop) (x2 : Int) (x3 : Int) (x4 : Int) (x6 : Int) (x8 : Int) (x9 : Int) (x10 : Int) (u : iST) : Prop :=
  br (x3 ≤ x10) (
    br (x8 = 0) (
      ov (x3 - x2) (
      br ((x3 - x2) ≤ 11) (
        rl (wlor 4611686018427387904 x6) (fun v2 => 
        Q v2 u)) (
        Q (-1) u))) (
      br (x9 = 0) (
        Q x4 u) (
        Q (-1) u))) (
    bd x10 3000 (rh (u.2.1 44 x10) (fun v3 => 
    ov (v3 - 48) (
    br (x8 = 0) (
      v_5_atomCell_57 R15 Q x2 x3 x4 x6 x9 x10 v3 (v3 - 48) u) (
      br (v3 < 48) (
        v_5_atomCell_57 R15 Q x2 x3 x4 x6 x9 x10 v3 (v3 - 48) u) (
        br (57 < v3) (
          v_5_atomCell_57 R15 Q x2 x3 x4 x6 x9 x10 v3 (v3 - 48) u) (
          v_5_atomCell_58 R15 Q x2 x3 x4 x6 x9 x10 v3 (v3 - 48) 1 u)))))))
def v_5_atomCell_15 (Q : Int → iST → Prop) (x2 : Int) (x3 : Int) (x4 : Int) (x6 : Int) (x8 : Int) (x9 : Int) (x10 : Int) (u : iST) : Prop := ∀ R15 : Int → Int → Int → Int → Int → Int → Int → iST → Prop, (∀ (x2 : Int) (x3 : Int) (x4 : Int) (x6 : Int) (x8 : Int) (x9 : Int) (x10 : Int) (u : iST), v_5_atomCell_15b R15 Q x2 x3 x4 x6 x8 x9 x10 u → R15 x2 x3 x4 x6 x8 x9 x10 u) → R15 x2 x3 x4 x6 x8 x9 x10 u
set_option maxRecDepth 20000 in
set_option maxHeartbeats 4000000 in
theorem f_5_atomCell_15 (X : yX RX5 p m c cX5_atomCell 13 s args D ca ad A) (hRf : 6 ≤ R.frames) (hRl : 200 ≤ R.locals) {Q : Int → iST → Prop} (hret : ∀ (v : Int) (u : iST) (H : Heap) (locs : List Loc) (ls : Array Slot) (pc : Nat), inL v → Q v u → yW D ca A ad s H locs u → decode cX5_atomCell pc = .ok (.lreturn, 1) → W p l e R s m args below meth c H locs 0 0 Qf (F0 m pc ls [.long (jL v)])) {x2 x3 x4 x6 x8 x9 x10 : Int} (rx2 : inR x2) (rx3 : inR x3) (rx4 : inL x4) (rx6 : inL x6) (rx8 : inR x8) (rx9 : inR x9) (rx10 : inR x10) (hw : yW D ca A ad s H locs u) (hl : lv_has ls 13 [(0, .ref (ad 0 4)), (1, .ref (ad 1 44)), (2, .int (jI x2)), (3, .int (jI x3)), (4, .long (jL x4)), (6, .long (jL x6)), (8, .int (jI x8)), (9, .int (jI x9)), (10, .int (jI x10))]) (h : v_5_atomCell_15 Q x2 x3 x4 x6 x8 x9 x10 u) : W p l e R s m args below meth c H locs 0 0 Qf (F0 m 15 ls []) := by
  refine h (fun x2 x3 x4 x6 x8 x9 x10 u => ∀ (H : Heap) (locs : List Loc) (ls : Array Slot), inR x2 → inR x3 → inL x4 → inL x6 → inR x8 → inR x9 → inR x10 → yW D ca A ad s H locs u → lv_has ls 13 [(0, .ref (ad 0 4)), (1, .ref (ad 1 44)), (2, .int (jI x2)), (3, .int (jI x3)), (4, .long (jL x4)), (6, .long (jL x6)), (8, .int (jI x8)), (9, .int (jI x9)), (10, .int (jI x10))] → W p l e R s m args below meth c H locs 0 0 Qf (F0 m 15 ls [])) ?_ H locs ls rx2 rx3 rx4 rx6 rx8 rx9 rx10 hw hl
  clear h hl hw rx2 rx3 rx4 rx6 rx8 rx9 rx10
  intro x2 x3 x4 x6 x8 x9 x10 u h H locs ls rx2 rx3 rx4 rx6 rx8 rx9 rx10 hw hl
  have hR15 : ∀ (x2 : Int) (x3 : Int) (x4 : Int) (x6 : Int) (x8 : Int) (x9 : Int) (x10 : Int) (u : iST) (H : Heap) (locs : List Loc) (ls : Array Slot), inR x2 → inR x3 → inL x4 → inL x6 → inR x8 → inR x9 → inR x10 → yW D ca A ad s H locs u → lv_has ls 13 [(0, .ref (ad 0 4)), (1, .ref (ad 1 44)), (2, .int (jI x2)), (3, .int (jI x3)), (4, .long (jL x4)), (6, .long (jL x6)), (8, .int (jI x8)), (9, .int (jI x9)), (10, .int (jI x10))] → (fun (x2 : Int) (x3 : Int) (x4 : Int) (x6 : Int) (x8 : Int) (x9 : Int) (x10 : Int) u => ∀ (H : Heap) (locs : List Loc) (ls : Array Slot), inR x2 → inR x3 → inL x4 → inL x6 → inR x8 → inR x9 → inR x10 → yW D ca A ad s H locs u → lv_has ls 13 [(0, .ref (ad 0 4)), (1, .ref (ad 1 44)), (2, .int (jI x2)), (3, .int (jI x3)), (4, .long (jL x4)), (6, .long (jL x6)), (8, .int (jI x8)), (9, .int (jI x9)), (10, .int (jI x10))] → W p l e R s m args below meth c H locs 0 0 Qf (F0 m 15 ls [])) x2 x3 x4 x6 x8 x9 x10 u → W p l e R s m args below meth c H locs 0 0 Qf (F0 m 15 ls []) := fun x2 x3 x4 x6 x8 x9 x10 u H locs ls rx2 rx3 rx4 rx6 rx8 rx9 rx10 hw hl h => h H locs ls rx2 rx3 rx4 rx6 rx8 rx9 rx10 hw hl
  have hx := X.1.1
  have hb := X.1.2.1
  unfold v_5_atomCell_15b at h
  refine lv_iload hx hb dX5_atomCell_15 (lv_at hl 8 rfl) ?_
  refine lv_iload_n hx hb dX5_atomCell_17 rfl (lv_at hl 3 rfl) ?_
  refine k_icmp_ge hx hb rx10 rx3 dX5_atomCell_18 (tgt := 138) rfl h (fun h => ?_) (fun h => ?_)
  · refine lv_iload hx hb dX5_atomCell_138 (lv_at hl 6 rfl) ?_
    refine k_if_eq hx hb rx8 dX5_atomCell_140 (tgt := 157) rfl h (fun h => ?_) (fun h => ?_)
    · refine lv_iload_n hx hb dX5_atomCell_157 rfl (lv_at hl 3 rfl) ?_
      refine lv_iload_n hx hb dX5_atomCell_158 rfl (lv_at hl 2 rfl) ?_
      refine k_isub hx hb dX5_atomCell_159 h (fun r1 h => ?_)
      refine lv_bipush hx hb dX5_atomCell_160 (v := jI 11) rfl ?_
      refine k_icmp_le hx hb r1 (by decide) dX5_atomCell_162 (tgt := 171) rfl h (fun h => ?_) (fun h => ?_)
      · refine yld2 105 yK_5_105 X dX5_atomCell_171 ?_
        refine lv_lload hx hb dX5_atomCell_174 (lv_at hl 5 rfl) ?_
        refine k_wlor hx hb dX5_atomCell_176 h (fun v2 rv2 h => ?_)
        exact hret _ _ _ _ _ _ rv2 h hw dX5_atomCell_177
      · refine yld2 79 yK_5_79 X dX5_atomCell_165 ?_
        refine lv_goto hx hb dX5_atomCell_168 (tgt := 177) rfl ?_
        exact hret _ _ _ _ _ _ (by decide) h hw dX5_atomCell_177
    · refine lv_iload hx hb dX5_atomCell_143 (lv_at hl 7 rfl) ?_
      refine k_if_eq hx hb rx9 dX5_atomCell_145 (tgt := 154) rfl h (fun h => ?_) (fun h => ?_)
      · refine lv_lload hx hb dX5_atomCell_154 (lv_at hl 4 rfl) ?_
        exact hret _ _ _ _ _ _ rx4 h hw dX5_atomCell_156
      · refine yld2 79 yK_5_79 X dX5_atomCell_148 ?_
        refine lv_goto hx hb dX5_atomCell_151 (tgt := 156) rfl ?_
        exact hret _ _ _ _ _ _ (by decide) h hw dX5_atomCell_156
  · refine lv_aload_n hx hb dX5_atomCell_21 rfl (lv_at hl 1 rfl) ?_
    refine lv_iload hx hb dX5_atomCell_22 (lv_at hl 8 rfl) ?_
    refine yl_44 X hw rx10 dX5_atomCell_24 h (fun v3 rv3 h => ?_)
    refine lv_istore hx hb dX5_atomCell_25 hl (by decide) rfl (fun ls hl => ?_)
    have hl : lv_has ls 13 [(11, .int (jI v3)), (0, .ref (ad 0 4)), (1, .ref (ad 1 44)), (2, .int (jI x2)), (3, .int (jI x3)), (4, .long (jL x4)), (6, .long (jL x6)), (8, .int (jI x8)), (9, .int (jI x9)), (10, .int (jI x10))] := hl
    refine lv_iload hx hb dX5_atomCell_27 (lv_at hl 0 rfl) ?_
    refine lv_bipush hx hb dX5_atomCell_29 (v := jI 48) rfl ?_
    refine k_isub hx hb dX5_atomCell_31 h (fun r4 h => ?_)
    refine lv_istore hx hb dX5_atomCell_32 hl (by decide) rfl (fun ls hl => ?_)
    have hl : lv_has ls 13 [(12, .int (jI (v3 - 48))), (11, .int (jI v3)), (0, .ref (ad 0 4)), (1, .ref (ad 1 44)), (2, .int (jI x2)), (3, .int (jI x3)), (4, .long (jL x4)), (6, .long (jL x6)), (8, .int (jI x8)), (9, .int (jI x9)), (10, .int (jI x10))] := hl
    refine lv_iload hx hb dX5_atomCell_34 (lv_at hl 8 rfl) ?_
    refine k_if_eq hx hb rx8 dX5_atomCell_36 (tgt := 57) rfl h (fun h => ?_) (fun h => ?_)
    · exact f_5_atomCell_57 X hRf hRl hret hR15 rx2 rx3 rx4 rx6 rx9 rx10 (inC_in rv3) r4 hw (lv_sub hl [2, 3, 4, 5, 6, 7, 9, 10, 1, 0] rfl) h
    · refine lv_iload hx hb dX5_atomCell_39 (lv_at hl 1 rfl) ?_
      refine lv_bipush hx hb dX5_atomCell_41 (v := jI 48) rfl ?_
      refine k_icmp_lt hx hb (inC_in rv3) (by decide) dX5_atomCell_43 (tgt := 57) rfl h (fun h => ?_) (fun h => ?_)
      · exact f_5_atomCell_57 X hRf hRl hret hR15 rx2 rx3 rx4 rx6 rx9 rx10 (inC_in rv3) r4 hw (lv_sub hl [2, 3, 4, 5, 6, 7, 9, 10, 1, 0] rfl) h
      · refine lv_iload hx hb dX5_atomCell_46 (lv_at hl 1 rfl) ?_
        refine lv_bipush hx hb dX5_atomCell_48 (v := jI 57) rfl ?_
        refine k_icmp_gt hx hb (inC_in rv3) (by decide) dX5_atomCell_50 (tgt := 57) rfl h (fun h => ?_) (fun h => ?_)
        · exact f_5_atomCell_57 X hRf hRl hret hR15 rx2 rx3 rx4 rx6 rx9 rx10 (inC_in rv3) r4 hw (lv_sub hl [2, 3, 4, 5, 6, 7, 9, 10, 1, 0] rfl) h
        · refine lv_iconst hx hb dX5_atomCell_53 (v := jI 1) rfl ?_
          refine lv_goto hx hb dX5_atomCell_54 (tgt := 58) rfl ?_
          exact f_5_atomCell_58 X hRf hRl hret hR15 rx2 rx3 rx4 rx6 rx9 rx10 (inC_in rv3) r4 (by decide) hw (lv_sub hl [2, 3, 4, 5, 6, 7, 9, 10, 1, 0] rfl) h

def v_5_atomCell (a1 : Int) (a2 : Int) (Q : Int → iST → Prop) (u : iST) : Prop :=
  v_5_atomCell_15 Q a1 a2 0 0 1 0 a1 u
set_option maxRecDepth 20000 in
set_option maxHeartbeats 4000000 in
theorem f_5_atomCell_s (X : yX RX5 p m c cX5_atomCell 13 s args D ca ad A) (hRf : 6 ≤ R.frames) (hRl : 200 ≤ R.locals) {Q : Int → iST → Prop} (hret : ∀ (v : Int) (u : iST) (H : Heap) (locs : List Loc) (ls : Array Slot) (pc : Nat), inL v → Q v u → yW D ca A ad s H locs u → decode cX5_atomCell pc = .ok (.lreturn, 1) → W p l e R s m args below meth c H locs 0 0 Qf (F0 m pc ls [.long (jL v)])) {a1 a2 : Int} (ra1 : inR a1) (ra2 : inR a2) (hw : yW D ca A ad s H locs u) (hl : lv_has ls 13 [(0, .ref (ad 0 4)), (1, .ref (ad 1 44)), (2, .int (jI a1)), (3, .int (jI a2))]) (h : v_5_atomCell a1 a2 Q u) : W p l e R s m args below meth c H locs 0 0 Qf (F0 m 0 ls []) := by
  have hx := X.1.1
  have hb := X.1.2.1
  unfold v_5_atomCell at h
  refine lv_lconst hx hb dX5_atomCell_0 (v := jL 0) rfl ?_
  refine lv_lstore hx hb dX5_atomCell_1 hl (by decide) rfl (fun ls hl => ?_)
  have hl : lv_has ls 13 [(4, .long (jL 0)), (0, .ref (ad 0 4)), (1, .ref (ad 1 44)), (2, .int (jI a1)), (3, .int (jI a2))] := hl
  refine lv_lconst hx hb dX5_atomCell_3 (v := jL 0) rfl ?_
  refine lv_lstore hx hb dX5_atomCell_4 hl (by decide) rfl (fun ls hl => ?_)
  have hl : lv_has ls 13 [(6, .long (jL 0)), (4, .long (jL 0)), (0, .ref (ad 0 4)), (1, .ref (ad 1 44)), (2, .int (jI a1)), (3, .int (jI a2))] := hl
  refine lv_iconst hx hb dX5_atomCell_6 (v := jI 1) rfl ?_
  refine lv_istore hx hb dX5_atomCell_7 hl (by decide) rfl (fun ls hl => ?_)
  have hl : lv_has ls 13 [(8, .int (jI 1)), (6, .long (jL 0)), (4, .long (jL 0)), (0, .ref (ad 0 4)), (1, .ref (ad 1 44)), (2, .int (jI a1)), (3, .int (jI a2))] := hl
  refine lv_iconst hx hb dX5_atomCell_9 (v := jI 0) rfl ?_
  refine lv_istore hx hb dX5_atomCell_10 hl (by decide) rfl (fun ls hl => ?_)
  have hl : lv_has ls 13 [(9, .int (jI 0)), (8, .int (jI 1)), (6, .long (jL 0)), (4, .long (jL 0)), (0, .ref (ad 0 4)), (1, .ref (ad 1 44)), (2, .int (jI a1)), (3, .int (jI a2))] := hl
  refine lv_iload_n hx hb dX5_atomCell_12 rfl (lv_at hl 6 rfl) ?_
  refine lv_istore hx hb dX5_atomCell_13 hl (by decide) rfl (fun ls hl => ?_)
  have hl : lv_has ls 13 [(10, .int (jI a1)), (9, .int (jI 0)), (8, .int (jI 1)), (6, .long (jL 0)), (4, .long (jL 0)), (0, .ref (ad 0 4)), (1, .ref (ad 1 44)), (2, .int (jI a1)), (3, .int (jI a2))] := hl
  exact f_5_atomCell_15 X hRf hRl hret ra1 ra2 (by decide) (by decide) (by decide) (by decide) ra1 hw (lv_sub hl [5, 6, 7, 8, 4, 3, 2, 1, 0] rfl) h

end
theorem e_5_atomCell {l : Launch} {a1 : Int} {a2 : Int} (ra1 : inR a1) (ra2 : inR a2) {Q : Int → iST → Prop} {u : iST} (h : v_5_atomCell a1 a2 Q u) : yML l yX5_atomCell (.code yX5_atomCell cX5_atomCell 13 (some .long) :: wsN) { frames := 6, cells := 0, slots := 0, locals := 200 } (fun ad => [.ref (ad 0 4), .ref (ad 1 44), .int (jI a1), .int (jI a2)]) Q u := yML_of (own := RX5) rfl (by decide +kernel) (fun _ => Nat.le_of_ble_eq_true rfl) (fun X hRf hRl hret hw hl => f_5_atomCell_s X hRf hRl hret ra1 ra2 hw hl h)
