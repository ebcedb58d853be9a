/-! instance -/
theorem dX12_instance_0 : decode cX12_instance 0 = .ok (.aload_n 0, 1) := by decide +kernel
theorem dX12_instance_1 : decode cX12_instance 1 = .ok (.iload_n 1, 1) := by decide +kernel
theorem dX12_instance_2 : decode cX12_instance 2 = .ok (.iconst (-1), 1) := by decide +kernel
theorem dX12_instance_3 : decode cX12_instance 3 = .ok (.iconst (-1), 1) := by decide +kernel
theorem dX12_instance_4 : decode cX12_instance 4 = .ok (.invokevirtual 520, 3) := by decide +kernel
theorem dX12_instance_7 : decode cX12_instance 7 = .ok (.ireturn, 1) := by decide +kernel

section
variable {p : Program} {l : Launch} {e : Env} {R : Room} {s : State} {m : MethodId} {args : Array Value} {below : List Frame} {meth : Method} {c : Code} {H : Heap} {locs : List Loc} {Qf : State → Prop}
variable {ls : Array Slot} {D : va_G} {ca : Nat → ClassId} {A : Nat → Prop} {h0 : Nat} {ad : Nat → Nat} {H0 : Heap} {u : iST}
def w_instance (a0 : Int) (Q : Int → iST → Prop) (u : iST) : Prop :=
  w_anew a0 (-1) (-1) (fun v1 u => 
  Q v1 u) u
set_option maxRecDepth 20000 in
set_option maxHeartbeats 4000000 in
theorem b_instance_s (X : kX p m c cX12_instance 2 s args D ca) (hRf : 5 ≤ R.frames) (hRl : 115 ≤ R.locals) {Q : Int → iST → Prop} (hret : ∀ (v : Int) (u : iST) (H : Heap) (locs : List Loc) (ls : Array Slot) (pc : Nat), inR v → Q v u → kW D ca A h0 ad H0 H locs u → decode cX12_instance pc = .ok (.ireturn, 1) → W p l e R s m args below meth c H locs 0 0 Qf (F0 m pc ls [.int (jI v)])) {a0 : Int} (ra0 : inR a0) (hw : kW D ca A h0 ad H0 H locs u) (hl : lv_has ls 2 [(0, .ref h0), (1, .int (jI a0))]) (h : w_instance a0 Q u) : W p l e R s m args below meth c H locs 0 0 Qf (F0 m 0 ls []) := by
  have hx := X.1.1
  have hb := X.1.2.1
  unfold w_instance at h
  refine lv_aload_n hx hb dX12_instance_0 rfl (lv_at hl 0 rfl) ?_
  refine lv_iload_n hx hb dX12_instance_1 rfl (lv_at hl 1 rfl) ?_
  refine lv_iconst hx hb dX12_instance_2 (v := jI (-1)) rfl ?_
  refine lv_iconst hx hb dX12_instance_3 (v := jI (-1)) rfl ?_
  refine kcI (n := 3) (c_anew ra0 (by decide) (by decide) h) G_anew E_anew X hw (Nat.le_trans (Nat.le_of_ble_eq_true rfl) hRf) (Nat.le_trans (Nat.le_of_ble_eq_true rfl) hRl) rfl hl.1 (Nat.le_of_ble_eq_true rfl) rfl dX12_instance_4 (fun v1 u H locs rv1 h hw => ?_)
  exact hret _ _ _ _ _ _ rv1 h hw dX12_instance_7

end
theorem c_instance {l : Launch} {a0 : Int} (ra0 : inR a0) {Q : Int → iST → Prop} {u : iST} (h : w_instance a0 Q u) : kMI l yX12_instance (.code yX12_instance cX12_instance 2 (some .int) :: wsM) { frames := 5, cells := 0, slots := 0, locals := 115 } [.int (jI a0)] Q u := kMI_of rfl (fun _ => Nat.le_of_ble_eq_true rfl) (fun X hRf hRl hret hw hl => b_instance_s X hRf hRl hret ra0 hw hl h)

/-! beginTerm -/
theorem dX12_beginTerm_0 : decode cX12_beginTerm 0 = .ok (.aload_n 0, 1) := by decide +kernel
theorem dX12_beginTerm_1 : decode cX12_beginTerm 1 = .ok (.iload_n 1, 1) := by decide +kernel
theorem dX12_beginTerm_2 : decode cX12_beginTerm 2 = .ok (.invokevirtual 365, 3) := by decide +kernel
theorem dX12_beginTerm_5 : decode cX12_beginTerm 5 = .ok (.ifCond .ne 10, 3) := by decide +kernel
theorem dX12_beginTerm_8 : decode cX12_beginTerm 8 = .ok (.aload_n 0, 1) := by decide +kernel
theorem dX12_beginTerm_9 : decode cX12_beginTerm 9 = .ok (.iload_n 1, 1) := by decide +kernel
theorem dX12_beginTerm_10 : decode cX12_beginTerm 10 = .ok (.invokevirtual 498, 3) := by decide +kernel
theorem dX12_beginTerm_13 : decode cX12_beginTerm 13 = .ok (.iconst 1, 1) := by decide +kernel
theorem dX12_beginTerm_14 : decode cX12_beginTerm 14 = .ok (.ireturn, 1) := by decide +kernel
theorem dX12_beginTerm_15 : decode cX12_beginTerm 15 = .ok (.aload_n 0, 1) := by decide +kernel
theorem dX12_beginTerm_16 : decode cX12_beginTerm 16 = .ok (.getfield 8, 3) := by decide +kernel
theorem dX12_beginTerm_19 : decode cX12_beginTerm 19 = .ok (.iload_n 1, 1) := by decide +kernel
theorem dX12_beginTerm_20 : decode cX12_beginTerm 20 = .ok (.iaload, 1) := by decide +kernel
theorem dX12_beginTerm_21 : decode cX12_beginTerm 21 = .ok (.iconst 2, 1) := by decide +kernel
theorem dX12_beginTerm_22 : decode cX12_beginTerm 22 = .ok (.if_icmp .ne 34, 3) := by decide +kernel
theorem dX12_beginTerm_25 : decode cX12_beginTerm 25 = .ok (.aload_n 0, 1) := by decide +kernel
theorem dX12_beginTerm_26 : decode cX12_beginTerm 26 = .ok (.iload_n 1, 1) := by decide +kernel
theorem dX12_beginTerm_27 : decode cX12_beginTerm 27 = .ok (.invokevirtual 462, 3) := by decide +kernel
theorem dX12_beginTerm_30 : decode cX12_beginTerm 30 = .ok (.ifCond .ne 5, 3) := by decide +kernel
theorem dX12_beginTerm_33 : decode cX12_beginTerm 33 = .ok (.iconst 0, 1) := by decide +kernel
theorem dX12_beginTerm_34 : decode cX12_beginTerm 34 = .ok (.ireturn, 1) := by decide +kernel
theorem dX12_beginTerm_35 : decode cX12_beginTerm 35 = .ok (.aload_n 0, 1) := by decide +kernel
theorem dX12_beginTerm_36 : decode cX12_beginTerm 36 = .ok (.aload_n 0, 1) := by decide +kernel
theorem dX12_beginTerm_37 : decode cX12_beginTerm 37 = .ok (.aload_n 0, 1) := by decide +kernel
theorem dX12_beginTerm_38 : decode cX12_beginTerm 38 = .ok (.getfield 8, 3) := by decide +kernel
theorem dX12_beginTerm_41 : decode cX12_beginTerm 41 = .ok (.aload_n 0, 1) := by decide +kernel
theorem dX12_beginTerm_42 : decode cX12_beginTerm 42 = .ok (.getfield 14, 3) := by decide +kernel
theorem dX12_beginTerm_45 : decode cX12_beginTerm 45 = .ok (.iload_n 1, 1) := by decide +kernel
theorem dX12_beginTerm_46 : decode cX12_beginTerm 46 = .ok (.iaload, 1) := by decide +kernel
theorem dX12_beginTerm_47 : decode cX12_beginTerm 47 = .ok (.iaload, 1) := by decide +kernel
theorem dX12_beginTerm_48 : decode cX12_beginTerm 48 = .ok (.invokevirtual 523, 3) := by decide +kernel
theorem dX12_beginTerm_51 : decode cX12_beginTerm 51 = .ok (.invokevirtual 498, 3) := by decide +kernel
theorem dX12_beginTerm_54 : decode cX12_beginTerm 54 = .ok (.iconst 1, 1) := by decide +kernel
theorem dX12_beginTerm_55 : decode cX12_beginTerm 55 = .ok (.ireturn, 1) := by decide +kernel
theorem dX12_beginTerm_56 : decode cX12_beginTerm 56 = .ok (.aload_n 0, 1) := by decide +kernel
theorem dX12_beginTerm_57 : decode cX12_beginTerm 57 = .ok (.aload_n 0, 1) := by decide +kernel
theorem dX12_beginTerm_58 : decode cX12_beginTerm 58 = .ok (.getfield 8, 3) := by decide +kernel
theorem dX12_beginTerm_61 : decode cX12_beginTerm 61 = .ok (.iload_n 1, 1) := by decide +kernel
theorem dX12_beginTerm_62 : decode cX12_beginTerm 62 = .ok (.iaload, 1) := by decide +kernel
theorem dX12_beginTerm_63 : decode cX12_beginTerm 63 = .ok (.invokevirtual 444, 3) := by decide +kernel
theorem dX12_beginTerm_66 : decode cX12_beginTerm 66 = .ok (.ifCond .ne 5, 3) := by decide +kernel
theorem dX12_beginTerm_69 : decode cX12_beginTerm 69 = .ok (.iconst 0, 1) := by decide +kernel
theorem dX12_beginTerm_70 : decode cX12_beginTerm 70 = .ok (.ireturn, 1) := by decide +kernel
theorem dX12_beginTerm_71 : decode cX12_beginTerm 71 = .ok (.aload_n 0, 1) := by decide +kernel
theorem dX12_beginTerm_72 : decode cX12_beginTerm 72 = .ok (.aload_n 0, 1) := by decide +kernel
theorem dX12_beginTerm_73 : decode cX12_beginTerm 73 = .ok (.getfield 8, 3) := by decide +kernel
theorem dX12_beginTerm_76 : decode cX12_beginTerm 76 = .ok (.iload_n 1, 1) := by decide +kernel
theorem dX12_beginTerm_77 : decode cX12_beginTerm 77 = .ok (.iaload, 1) := by decide +kernel
theorem dX12_beginTerm_78 : decode cX12_beginTerm 78 = .ok (.invokevirtual 526, 3) := by decide +kernel
theorem dX12_beginTerm_81 : decode cX12_beginTerm 81 = .ok (.istore_n 2, 1) := by decide +kernel
theorem dX12_beginTerm_82 : decode cX12_beginTerm 82 = .ok (.iload_n 2, 1) := by decide +kernel
theorem dX12_beginTerm_83 : decode cX12_beginTerm 83 = .ok (.iconst (-1), 1) := by decide +kernel
theorem dX12_beginTerm_84 : decode cX12_beginTerm 84 = .ok (.if_icmp .eq 21, 3) := by decide +kernel
theorem dX12_beginTerm_87 : decode cX12_beginTerm 87 = .ok (.aload_n 0, 1) := by decide +kernel
theorem dX12_beginTerm_88 : decode cX12_beginTerm 88 = .ok (.aload_n 0, 1) := by decide +kernel
theorem dX12_beginTerm_89 : decode cX12_beginTerm 89 = .ok (.getfield 14, 3) := by decide +kernel
theorem dX12_beginTerm_92 : decode cX12_beginTerm 92 = .ok (.iload_n 1, 1) := by decide +kernel
theorem dX12_beginTerm_93 : decode cX12_beginTerm 93 = .ok (.iaload, 1) := by decide +kernel
theorem dX12_beginTerm_94 : decode cX12_beginTerm 94 = .ok (.invokevirtual 529, 3) := by decide +kernel
theorem dX12_beginTerm_97 : decode cX12_beginTerm 97 = .ok (.aload_n 0, 1) := by decide +kernel
theorem dX12_beginTerm_98 : decode cX12_beginTerm 98 = .ok (.iload_n 2, 1) := by decide +kernel
theorem dX12_beginTerm_99 : decode cX12_beginTerm 99 = .ok (.invokevirtual 532, 3) := by decide +kernel
theorem dX12_beginTerm_102 : decode cX12_beginTerm 102 = .ok (.if_icmp .eq 5, 3) := by decide +kernel
theorem dX12_beginTerm_105 : decode cX12_beginTerm 105 = .ok (.iconst 0, 1) := by decide +kernel
theorem dX12_beginTerm_106 : decode cX12_beginTerm 106 = .ok (.ireturn, 1) := by decide +kernel
theorem dX12_beginTerm_107 : decode cX12_beginTerm 107 = .ok (.aload_n 0, 1) := by decide +kernel
theorem dX12_beginTerm_108 : decode cX12_beginTerm 108 = .ok (.iload_n 1, 1) := by decide +kernel
theorem dX12_beginTerm_109 : decode cX12_beginTerm 109 = .ok (.invokevirtual 501, 3) := by decide +kernel
theorem dX12_beginTerm_112 : decode cX12_beginTerm 112 = .ok (.iconst 1, 1) := by decide +kernel
theorem dX12_beginTerm_113 : decode cX12_beginTerm 113 = .ok (.ireturn, 1) := by decide +kernel

section
variable {p : Program} {l : Launch} {e : Env} {R : Room} {s : State} {m : MethodId} {args : Array Value} {below : List Frame} {meth : Method} {c : Code} {H : Heap} {locs : List Loc} {Qf : State → Prop}
variable {ls : Array Slot} {D : va_G} {ca : Nat → ClassId} {A : Nat → Prop} {h0 : Nat} {ad : Nat → Nat} {H0 : Heap} {u : iST}
def w_beginTerm (a0 : Int) (Q : Int → iST → Prop) (u : iST) : Prop :=
  w_isPair a0 (fun v1 u => 
  br (v1 ≠ 0) (
    bd a0 452000 (rd (u.2.1 0 a0) (fun v2 => 
    br (v2 ≠ 2) (
      bd a0 452000 (rd (u.2.1 0 a0) (fun v3 => 
      w_isSymbol v3 (fun v4 u => 
      br (v4 ≠ 0) (
        bd a0 452000 (rd (u.2.1 0 a0) (fun v5 => 
        w_functionOf v5 (fun v6 u => 
        br (v6 = (-1)) (
          zt 0 (Q 0 u)) (
          bd a0 452000 (rd (u.2.1 1 a0) (fun v7 => 
          w_lengthOf v7 (fun v8 u => 
          w_manyOf v6 (fun v9 u => 
          br (v8 = v9) (
            w_openCall a0 (fun u => 
            zt 1 (Q 1 u)) u) (
            zt 0 (Q 0 u))) u) u)))) u))) (
        zt 0 (Q 0 u))) u))) (
      w_isQuoted a0 (fun v11 u => 
      br (v11 ≠ 0) (
        bd a0 452000 (rd (u.2.1 1 a0) (fun v12 => 
        bd v12 452000 (rd (u.2.1 0 v12) (fun v13 => 
        w_constantOf v13 (fun v14 u => 
        w_build v14 (fun u => 
        zt 1 (Q 1 u)) u) u))))) (
        zt 0 (Q 0 u))) u)))) (
    w_build a0 (fun u => 
    zt 1 (Q 1 u)) u)) u
set_option maxRecDepth 20000 in
set_option maxHeartbeats 4000000 in
theorem b_beginTerm_s (X : kX p m c cX12_beginTerm 3 s args D ca) (hRf : 5 ≤ R.frames) (hRl : 111 ≤ R.locals) {Q : Int → iST → Prop} (hret : ∀ (v : Int) (u : iST) (H : Heap) (locs : List Loc) (ls : Array Slot) (pc : Nat), bz v → Q v u → kW D ca A h0 ad H0 H locs u → decode cX12_beginTerm pc = .ok (.ireturn, 1) → W p l e R s m args below meth c H locs 0 0 Qf (F0 m pc ls [.int (jI v)])) {a0 : Int} (ra0 : inR a0) (hw : kW D ca A h0 ad H0 H locs u) (hl : lv_has ls 3 [(0, .ref h0), (1, .int (jI a0))]) (h : w_beginTerm a0 Q u) : W p l e R s m args below meth c H locs 0 0 Qf (F0 m 0 ls []) := by
  have hx := X.1.1
  have hb := X.1.2.1
  unfold w_beginTerm at h
  refine lv_aload_n hx hb dX12_beginTerm_0 rfl (lv_at hl 0 rfl) ?_
  refine lv_iload_n hx hb dX12_beginTerm_1 rfl (lv_at hl 1 rfl) ?_
  refine kcI (n := 1) (c_isPair ra0 h) G_isPair E_isPair X hw (Nat.le_trans (Nat.le_of_ble_eq_true rfl) hRf) (Nat.le_trans (Nat.le_of_ble_eq_true rfl) hRl) rfl hl.1 (Nat.le_of_ble_eq_true rfl) rfl dX12_beginTerm_2 (fun v1 u H locs rv1 h hw => ?_)
  refine k_if_ne hx hb rv1 dX12_beginTerm_5 (tgt := 15) rfl h (fun h => ?_) (fun h => ?_)
  · refine lv_aload_n hx hb dX12_beginTerm_15 rfl (lv_at hl 0 rfl) ?_
    refine gA 0 8 (by decide) L_0 (fun _ _ => mF_0) rfl X hw dX12_beginTerm_16 ?_
    refine lv_iload_n hx hb dX12_beginTerm_19 rfl (lv_at hl 1 rfl) ?_
    refine aL 0 1 0 452000 (fun _ _ _ _ => mG_0) (fun _ => rfl) X hw ra0 dX12_beginTerm_20 rfl h (fun v2 rv2 h => ?_)
    refine lv_iconst hx hb dX12_beginTerm_21 (v := jI 2) rfl ?_
    refine k_icmp_ne hx hb rv2 (by decide) dX12_beginTerm_22 (tgt := 56) rfl h (fun h => ?_) (fun h => ?_)
    · refine lv_aload_n hx hb dX12_beginTerm_56 rfl (lv_at hl 0 rfl) ?_
      refine lv_aload_n hx hb dX12_beginTerm_57 rfl (lv_at hl 0 rfl) ?_
      refine gA 0 8 (by decide) L_0 (fun _ _ => mF_0) rfl X hw dX12_beginTerm_58 ?_
      refine lv_iload_n hx hb dX12_beginTerm_61 rfl (lv_at hl 1 rfl) ?_
      refine aL 0 1 0 452000 (fun _ _ _ _ => mG_0) (fun _ => rfl) X hw ra0 dX12_beginTerm_62 rfl h (fun v3 rv3 h => ?_)
      refine kcI (n := 1) (c_isSymbol rv3 h) G_isSymbol E_isSymbol X hw (Nat.le_trans (Nat.le_of_ble_eq_true rfl) hRf) (Nat.le_trans (Nat.le_of_ble_eq_true rfl) hRl) rfl hl.1 (Nat.le_of_ble_eq_true rfl) rfl dX12_beginTerm_63 (fun v4 u H locs rv4 h hw => ?_)
      refine k_if_ne hx hb rv4 dX12_beginTerm_66 (tgt := 71) rfl h (fun h => ?_) (fun h => ?_)
      · refine lv_aload_n hx hb dX12_beginTerm_71 rfl (lv_at hl 0 rfl) ?_
        refine lv_aload_n hx hb dX12_beginTerm_72 rfl (lv_at hl 0 rfl) ?_
        refine gA 0 8 (by decide) L_0 (fun _ _ => mF_0) rfl X hw dX12_beginTerm_73 ?_
        refine lv_iload_n hx hb dX12_beginTerm_76 rfl (lv_at hl 1 rfl) ?_
        refine aL 0 1 0 452000 (fun _ _ _ _ => mG_0) (fun _ => rfl) X hw ra0 dX12_beginTerm_77 rfl h (fun v5 rv5 h => ?_)
        refine kcI (n := 1) (c_functionOf rv5 h) G_functionOf E_functionOf X hw (Nat.le_trans (Nat.le_of_ble_eq_true rfl) hRf) (Nat.le_trans (Nat.le_of_ble_eq_true rfl) hRl) rfl hl.1 (Nat.le_of_ble_eq_true rfl) rfl dX12_beginTerm_78 (fun v6 u H locs rv6 h hw => ?_)
        refine lv_istore_n hx hb dX12_beginTerm_81 rfl hl (by decide) rfl (fun ls hl => ?_)
        have hl : lv_has ls 3 [(2, .int (jI v6)), (0, .ref (h0)), (1, .int (jI a0))] := hl
        refine lv_iload_n hx hb dX12_beginTerm_82 rfl (lv_at hl 0 rfl) ?_
        refine lv_iconst hx hb dX12_beginTerm_83 (v := jI (-1)) rfl ?_
        refine k_icmp_eq hx hb rv6 (by decide) dX12_beginTerm_84 (tgt := 105) rfl h (fun h => ?_) (fun h => ?_)
        · refine lv_iconst hx hb dX12_beginTerm_105 (v := jI 0) rfl ?_
          exact hret _ _ _ _ _ _ h.1 h.2 hw dX12_beginTerm_106
        · refine lv_aload_n hx hb dX12_beginTerm_87 rfl (lv_at hl 1 rfl) ?_
          refine lv_aload_n hx hb dX12_beginTerm_88 rfl (lv_at hl 1 rfl) ?_
          refine gA 1 14 (by decide) L_1 (fun _ _ => mF_1) rfl X hw dX12_beginTerm_89 ?_
          refine lv_iload_n hx hb dX12_beginTerm_92 rfl (lv_at hl 2 rfl) ?_
          refine aL 1 2 1 452000 (fun _ _ _ _ => mG_1) (fun _ => rfl) X hw ra0 dX12_beginTerm_93 rfl h (fun v7 rv7 h => ?_)
          refine kcI (n := 1) (c_lengthOf rv7 h) G_lengthOf E_lengthOf X hw (Nat.le_trans (Nat.le_of_ble_eq_true rfl) hRf) (Nat.le_trans (Nat.le_of_ble_eq_true rfl) hRl) rfl hl.1 (Nat.le_of_ble_eq_true rfl) rfl dX12_beginTerm_94 (fun v8 u H locs rv8 h hw => ?_)
          refine lv_aload_n hx hb dX12_beginTerm_97 rfl (lv_at hl 1 rfl) ?_
          refine lv_iload_n hx hb dX12_beginTerm_98 rfl (lv_at hl 0 rfl) ?_
          refine kcI (n := 1) (c_manyOf rv6 h) G_manyOf E_manyOf X hw (Nat.le_trans (Nat.le_of_ble_eq_true rfl) hRf) (Nat.le_trans (Nat.le_of_ble_eq_true rfl) hRl) rfl hl.1 (Nat.le_of_ble_eq_true rfl) rfl dX12_beginTerm_99 (fun v9 u H locs rv9 h hw => ?_)
          refine k_icmp_eq hx hb rv8 rv9 dX12_beginTerm_102 (tgt := 107) rfl h (fun h => ?_) (fun h => ?_)
          · refine lv_aload_n hx hb dX12_beginTerm_107 rfl (lv_at hl 1 rfl) ?_
            refine lv_iload_n hx hb dX12_beginTerm_108 rfl (lv_at hl 2 rfl) ?_
            refine kcV (n := 1) (c_openCall ra0 h) G_openCall E_openCall X hw (Nat.le_trans (Nat.le_of_ble_eq_true rfl) hRf) (Nat.le_trans (Nat.le_of_ble_eq_true rfl) hRl) rfl hl.1 (Nat.le_of_ble_eq_true rfl) rfl dX12_beginTerm_109 (fun u H locs h hw => ?_)
            refine lv_iconst hx hb dX12_beginTerm_112 (v := jI 1) rfl ?_
            exact hret _ _ _ _ _ _ h.1 h.2 hw dX12_beginTerm_113
          · refine lv_iconst hx hb dX12_beginTerm_105 (v := jI 0) rfl ?_
            exact hret _ _ _ _ _ _ h.1 h.2 hw dX12_beginTerm_106
      · refine lv_iconst hx hb dX12_beginTerm_69 (v := jI 0) rfl ?_
        exact hret _ _ _ _ _ _ h.1 h.2 hw dX12_beginTerm_70
    · refine lv_aload_n hx hb dX12_beginTerm_25 rfl (lv_at hl 0 rfl) ?_
      refine lv_iload_n hx hb dX12_beginTerm_26 rfl (lv_at hl 1 rfl) ?_
      refine kcI (n := 1) (c_isQuoted ra0 h) G_isQuoted E_isQuoted X hw (Nat.le_trans (Nat.le_of_ble_eq_true rfl) hRf) (Nat.le_trans (Nat.le_of_ble_eq_true rfl) hRl) rfl hl.1 (Nat.le_of_ble_eq_true rfl) rfl dX12_beginTerm_27 (fun v11 u H locs rv11 h hw => ?_)
      refine k_if_ne hx hb rv11 dX12_beginTerm_30 (tgt := 35) rfl h (fun h => ?_) (fun h => ?_)
      · refine lv_aload_n hx hb dX12_beginTerm_35 rfl (lv_at hl 0 rfl) ?_
        refine lv_aload_n hx hb dX12_beginTerm_36 rfl (lv_at hl 0 rfl) ?_
        refine lv_aload_n hx hb dX12_beginTerm_37 rfl (lv_at hl 0 rfl) ?_
        refine gA 0 8 (by decide) L_0 (fun _ _ => mF_0) rfl X hw dX12_beginTerm_38 ?_
        refine lv_aload_n hx hb dX12_beginTerm_41 rfl (lv_at hl 0 rfl) ?_
        refine gA 1 14 (by decide) L_1 (fun _ _ => mF_1) rfl X hw dX12_beginTerm_42 ?_
        refine lv_iload_n hx hb dX12_beginTerm_45 rfl (lv_at hl 1 rfl) ?_
        refine aL 1 2 1 452000 (fun _ _ _ _ => mG_1) (fun _ => rfl) X hw ra0 dX12_beginTerm_46 rfl h (fun v12 rv12 h => ?_)
        refine aL 0 1 0 452000 (fun _ _ _ _ => mG_0) (fun _ => rfl) X hw rv12 dX12_beginTerm_47 rfl h (fun v13 rv13 h => ?_)
        refine kcI (n := 1) (c_constantOf rv13 h) G_constantOf E_constantOf X hw (Nat.le_trans (Nat.le_of_ble_eq_true rfl) hRf) (Nat.le_trans (Nat.le_of_ble_eq_true rfl) hRl) rfl hl.1 (Nat.le_of_ble_eq_true rfl) rfl dX12_beginTerm_48 (fun v14 u H locs rv14 h hw => ?_)
        refine kcV (n := 1) (c_build rv14 h) G_build E_build X hw (Nat.le_trans (Nat.le_of_ble_eq_true rfl) hRf) (Nat.le_trans (Nat.le_of_ble_eq_true rfl) hRl) rfl hl.1 (Nat.le_of_ble_eq_true rfl) rfl dX12_beginTerm_51 (fun u H locs h hw => ?_)
        refine lv_iconst hx hb dX12_beginTerm_54 (v := jI 1) rfl ?_
        exact hret _ _ _ _ _ _ h.1 h.2 hw dX12_beginTerm_55
      · refine lv_iconst hx hb dX12_beginTerm_33 (v := jI 0) rfl ?_
        exact hret _ _ _ _ _ _ h.1 h.2 hw dX12_beginTerm_34
  · refine lv_aload_n hx hb dX12_beginTerm_8 rfl (lv_at hl 0 rfl) ?_
    refine lv_iload_n hx hb dX12_beginTerm_9 rfl (lv_at hl 1 rfl) ?_
    refine kcV (n := 1) (c_build ra0 h) G_build E_build X hw (Nat.le_trans (Nat.le_of_ble_eq_true rfl) hRf) (Nat.le_trans (Nat.le_of_ble_eq_true rfl) hRl) rfl hl.1 (Nat.le_of_ble_eq_true rfl) rfl dX12_beginTerm_10 (fun u H locs h hw => ?_)
    refine lv_iconst hx hb dX12_beginTerm_13 (v := jI 1) rfl ?_
    exact hret _ _ _ _ _ _ h.1 h.2 hw dX12_beginTerm_14

end
theorem c_beginTerm {l : Launch} {a0 : Int} (ra0 : inR a0) {Q : Int → iST → Prop} {u : iST} (h : w_beginTerm a0 Q u) : kMI l yX12_beginTerm (.code yX12_beginTerm cX12_beginTerm 3 (some .boolean) :: wsM) { frames := 5, cells := 0, slots := 0, locals := 111 } [.int (jI a0)] Q u := kMZ_of rfl (fun _ => Nat.le_of_ble_eq_true rfl) (fun X hRf hRl hret hw hl => b_beginTerm_s X hRf hRl hret ra0 hw hl h)

/-! termOf -/
theorem dX12_termOf_0 : decode cX12_termOf 0 = .ok (.aload_n 0, 1) := by decide +kernel
theorem dX12_termOf_1 : decode cX12_termOf 1 = .ok (.getfield 492, 3) := by decide +kernel
theorem dX12_termOf_4 : decode cX12_termOf 4 = .ok (.istore_n 2, 1) := by decide +kernel
theorem dX12_termOf_5 : decode cX12_termOf 5 = .ok (.aload_n 0, 1) := by decide +kernel
theorem dX12_termOf_6 : decode cX12_termOf 6 = .ok (.getfield 486, 3) := by decide +kernel
theorem dX12_termOf_9 : decode cX12_termOf 9 = .ok (.istore_n 3, 1) := by decide +kernel
theorem dX12_termOf_10 : decode cX12_termOf 10 = .ok (.aload_n 0, 1) := by decide +kernel
theorem dX12_termOf_11 : decode cX12_termOf 11 = .ok (.iload_n 1, 1) := by decide +kernel
theorem dX12_termOf_12 : decode cX12_termOf 12 = .ok (.invokevirtual 535, 3) := by decide +kernel
theorem dX12_termOf_15 : decode cX12_termOf 15 = .ok (.istore 4, 2) := by decide +kernel
theorem dX12_termOf_17 : decode cX12_termOf 17 = .ok (.aload_n 0, 1) := by decide +kernel
theorem dX12_termOf_18 : decode cX12_termOf 18 = .ok (.getfield 492, 3) := by decide +kernel
theorem dX12_termOf_21 : decode cX12_termOf 21 = .ok (.iload_n 2, 1) := by decide +kernel
theorem dX12_termOf_22 : decode cX12_termOf 22 = .ok (.if_icmp .le 125, 3) := by decide +kernel
theorem dX12_termOf_25 : decode cX12_termOf 25 = .ok (.iload 4, 2) := by decide +kernel
theorem dX12_termOf_27 : decode cX12_termOf 27 = .ok (.ifCond .eq 120, 3) := by decide +kernel
theorem dX12_termOf_30 : decode cX12_termOf 30 = .ok (.aload_n 0, 1) := by decide +kernel
theorem dX12_termOf_31 : decode cX12_termOf 31 = .ok (.getfield 492, 3) := by decide +kernel
theorem dX12_termOf_34 : decode cX12_termOf 34 = .ok (.iconst 1, 1) := by decide +kernel
theorem dX12_termOf_35 : decode cX12_termOf 35 = .ok (.isub, 1) := by decide +kernel
theorem dX12_termOf_36 : decode cX12_termOf 36 = .ok (.istore 5, 2) := by decide +kernel
theorem dX12_termOf_38 : decode cX12_termOf 38 = .ok (.aload_n 0, 1) := by decide +kernel
theorem dX12_termOf_39 : decode cX12_termOf 39 = .ok (.getfield 148, 3) := by decide +kernel
theorem dX12_termOf_42 : decode cX12_termOf 42 = .ok (.iload 5, 2) := by decide +kernel
theorem dX12_termOf_44 : decode cX12_termOf 44 = .ok (.iaload, 1) := by decide +kernel
theorem dX12_termOf_45 : decode cX12_termOf 45 = .ok (.ifCond .ne 58, 3) := by decide +kernel
theorem dX12_termOf_48 : decode cX12_termOf 48 = .ok (.aload_n 0, 1) := by decide +kernel
theorem dX12_termOf_49 : decode cX12_termOf 49 = .ok (.dup, 1) := by decide +kernel
theorem dX12_termOf_50 : decode cX12_termOf 50 = .ok (.getfield 492, 3) := by decide +kernel
theorem dX12_termOf_53 : decode cX12_termOf 53 = .ok (.iconst 1, 1) := by decide +kernel
theorem dX12_termOf_54 : decode cX12_termOf 54 = .ok (.isub, 1) := by decide +kernel
theorem dX12_termOf_55 : decode cX12_termOf 55 = .ok (.putfield 492, 3) := by decide +kernel
theorem dX12_termOf_58 : decode cX12_termOf 58 = .ok (.aload_n 0, 1) := by decide +kernel
theorem dX12_termOf_59 : decode cX12_termOf 59 = .ok (.aload_n 0, 1) := by decide +kernel
theorem dX12_termOf_60 : decode cX12_termOf 60 = .ok (.getfield 8, 3) := by decide +kernel
theorem dX12_termOf_63 : decode cX12_termOf 63 = .ok (.aload_n 0, 1) := by decide +kernel
theorem dX12_termOf_64 : decode cX12_termOf 64 = .ok (.getfield 145, 3) := by decide +kernel
theorem dX12_termOf_67 : decode cX12_termOf 67 = .ok (.iload 5, 2) := by decide +kernel
theorem dX12_termOf_69 : decode cX12_termOf 69 = .ok (.iaload, 1) := by decide +kernel
theorem dX12_termOf_70 : decode cX12_termOf 70 = .ok (.iaload, 1) := by decide +kernel
theorem dX12_termOf_71 : decode cX12_termOf 71 = .ok (.aload_n 0, 1) := by decide +kernel
theorem dX12_termOf_72 : decode cX12_termOf 72 = .ok (.getfield 151, 3) := by decide +kernel
theorem dX12_termOf_75 : decode cX12_termOf 75 = .ok (.iload 5, 2) := by decide +kernel
theorem dX12_termOf_77 : decode cX12_termOf 77 = .ok (.iaload, 1) := by decide +kernel
theorem dX12_termOf_78 : decode cX12_termOf 78 = .ok (.invokevirtual 514, 3) := by decide +kernel
theorem dX12_termOf_81 : decode cX12_termOf 81 = .ok (.istore 6, 2) := by decide +kernel
theorem dX12_termOf_83 : decode cX12_termOf 83 = .ok (.aload_n 0, 1) := by decide +kernel
theorem dX12_termOf_84 : decode cX12_termOf 84 = .ok (.aload_n 0, 1) := by decide +kernel
theorem dX12_termOf_85 : decode cX12_termOf 85 = .ok (.getfield 151, 3) := by decide +kernel
theorem dX12_termOf_88 : decode cX12_termOf 88 = .ok (.iload 5, 2) := by decide +kernel
theorem dX12_termOf_90 : decode cX12_termOf 90 = .ok (.iaload, 1) := by decide +kernel
theorem dX12_termOf_91 : decode cX12_termOf 91 = .ok (.putfield 486, 3) := by decide +kernel
theorem dX12_termOf_94 : decode cX12_termOf 94 = .ok (.aload_n 0, 1) := by decide +kernel
theorem dX12_termOf_95 : decode cX12_termOf 95 = .ok (.iload 6, 2) := by decide +kernel
theorem dX12_termOf_97 : decode cX12_termOf 97 = .ok (.invokevirtual 498, 3) := by decide +kernel
theorem dX12_termOf_100 : decode cX12_termOf 100 = .ok (.goto 44, 3) := by decide +kernel
theorem dX12_termOf_103 : decode cX12_termOf 103 = .ok (.aload_n 0, 1) := by decide +kernel
theorem dX12_termOf_104 : decode cX12_termOf 104 = .ok (.getfield 8, 3) := by decide +kernel
theorem dX12_termOf_107 : decode cX12_termOf 107 = .ok (.aload_n 0, 1) := by decide +kernel
theorem dX12_termOf_108 : decode cX12_termOf 108 = .ok (.getfield 148, 3) := by decide +kernel
theorem dX12_termOf_111 : decode cX12_termOf 111 = .ok (.iload 5, 2) := by decide +kernel
theorem dX12_termOf_113 : decode cX12_termOf 113 = .ok (.iaload, 1) := by decide +kernel
theorem dX12_termOf_114 : decode cX12_termOf 114 = .ok (.iaload, 1) := by decide +kernel
theorem dX12_termOf_115 : decode cX12_termOf 115 = .ok (.istore 6, 2) := by decide +kernel
theorem dX12_termOf_117 : decode cX12_termOf 117 = .ok (.aload_n 0, 1) := by decide +kernel
theorem dX12_termOf_118 : decode cX12_termOf 118 = .ok (.getfield 148, 3) := by decide +kernel
theorem dX12_termOf_121 : decode cX12_termOf 121 = .ok (.iload 5, 2) := by decide +kernel
theorem dX12_termOf_123 : decode cX12_termOf 123 = .ok (.aload_n 0, 1) := by decide +kernel
theorem dX12_termOf_124 : decode cX12_termOf 124 = .ok (.getfield 14, 3) := by decide +kernel
theorem dX12_termOf_127 : decode cX12_termOf 127 = .ok (.aload_n 0, 1) := by decide +kernel
theorem dX12_termOf_128 : decode cX12_termOf 128 = .ok (.getfield 148, 3) := by decide +kernel
theorem dX12_termOf_131 : decode cX12_termOf 131 = .ok (.iload 5, 2) := by decide +kernel
theorem dX12_termOf_133 : decode cX12_termOf 133 = .ok (.iaload, 1) := by decide +kernel
theorem dX12_termOf_134 : decode cX12_termOf 134 = .ok (.iaload, 1) := by decide +kernel
theorem dX12_termOf_135 : decode cX12_termOf 135 = .ok (.iastore, 1) := by decide +kernel
theorem dX12_termOf_136 : decode cX12_termOf 136 = .ok (.aload_n 0, 1) := by decide +kernel
theorem dX12_termOf_137 : decode cX12_termOf 137 = .ok (.iload 6, 2) := by decide +kernel
theorem dX12_termOf_139 : decode cX12_termOf 139 = .ok (.invokevirtual 535, 3) := by decide +kernel
theorem dX12_termOf_142 : decode cX12_termOf 142 = .ok (.istore 4, 2) := by decide +kernel
theorem dX12_termOf_144 : decode cX12_termOf 144 = .ok (.goto (-127), 3) := by decide +kernel
theorem dX12_termOf_147 : decode cX12_termOf 147 = .ok (.aload_n 0, 1) := by decide +kernel
theorem dX12_termOf_148 : decode cX12_termOf 148 = .ok (.iload_n 2, 1) := by decide +kernel
theorem dX12_termOf_149 : decode cX12_termOf 149 = .ok (.putfield 492, 3) := by decide +kernel
theorem dX12_termOf_152 : decode cX12_termOf 152 = .ok (.aload_n 0, 1) := by decide +kernel
theorem dX12_termOf_153 : decode cX12_termOf 153 = .ok (.iload_n 3, 1) := by decide +kernel
theorem dX12_termOf_154 : decode cX12_termOf 154 = .ok (.putfield 486, 3) := by decide +kernel
theorem dX12_termOf_157 : decode cX12_termOf 157 = .ok (.iload 4, 2) := by decide +kernel
theorem dX12_termOf_159 : decode cX12_termOf 159 = .ok (.ifCond .eq 27, 3) := by decide +kernel
theorem dX12_termOf_162 : decode cX12_termOf 162 = .ok (.aload_n 0, 1) := by decide +kernel
theorem dX12_termOf_163 : decode cX12_termOf 163 = .ok (.aload_n 0, 1) := by decide +kernel
theorem dX12_termOf_164 : decode cX12_termOf 164 = .ok (.getfield 154, 3) := by decide +kernel
theorem dX12_termOf_167 : decode cX12_termOf 167 = .ok (.iload_n 3, 1) := by decide +kernel
theorem dX12_termOf_168 : decode cX12_termOf 168 = .ok (.iaload, 1) := by decide +kernel
theorem dX12_termOf_169 : decode cX12_termOf 169 = .ok (.invokevirtual 489, 3) := by decide +kernel
theorem dX12_termOf_172 : decode cX12_termOf 172 = .ok (.bipush 120, 2) := by decide +kernel
theorem dX12_termOf_174 : decode cX12_termOf 174 = .ok (.if_icmp .gt 12, 3) := by decide +kernel
theorem dX12_termOf_177 : decode cX12_termOf 177 = .ok (.aload_n 0, 1) := by decide +kernel
theorem dX12_termOf_178 : decode cX12_termOf 178 = .ok (.getfield 154, 3) := by decide +kernel
theorem dX12_termOf_181 : decode cX12_termOf 181 = .ok (.iload_n 3, 1) := by decide +kernel
theorem dX12_termOf_182 : decode cX12_termOf 182 = .ok (.iaload, 1) := by decide +kernel
theorem dX12_termOf_183 : decode cX12_termOf 183 = .ok (.goto 4, 3) := by decide +kernel
theorem dX12_termOf_186 : decode cX12_termOf 186 = .ok (.iconst (-1), 1) := by decide +kernel
theorem dX12_termOf_187 : decode cX12_termOf 187 = .ok (.ireturn, 1) := by decide +kernel

section
variable {p : Program} {l : Launch} {e : Env} {R : Room} {s : State} {m : MethodId} {args : Array Value} {below : List Frame} {meth : Method} {c : Code} {H : Heap} {locs : List Loc} {Qf : State → Prop}
variable {ls : Array Slot} {D : va_G} {ca : Nat → ClassId} {A : Nat → Prop} {h0 : Nat} {ad : Nat → Nat} {H0 : Heap} {u : iST}
def w_termOf_147 (Q : Int → iST → Prop) (x2 : Int) (x3 : Int) (x4 : Int) (u : iST) : Prop :=
  sw (iI u 69 x2) (fun u => 
  sw (iI u 71 x3) (fun u => 
  br (x4 = 0) (
    Q (-1) u) (
    bd x3 2400 (rd (u.2.1 70 x3) (fun v5 => 
    w_sizeOf v5 (fun v6 u => 
    br (120 < v6) (
      Q (-1) u) (
      bd x3 2400 (rd (u.2.1 70 x3) (fun v7 => 
      Q v7 u)))) u)))))
set_option maxRecDepth 20000 in
set_option maxHeartbeats 4000000 in
theorem b_termOf_147 (X : kX p m c cX12_termOf 7 s args D ca) (hRf : 6 ≤ R.frames) (hRl : 133 ≤ R.locals) {Q : Int → iST → Prop} (hret : ∀ (v : Int) (u : iST) (H : Heap) (locs : List Loc) (ls : Array Slot) (pc : Nat), inR v → Q v u → kW D ca A h0 ad H0 H locs u → decode cX12_termOf pc = .ok (.ireturn, 1) → W p l e R s m args below meth c H locs 0 0 Qf (F0 m pc ls [.int (jI v)])) {x2 x3 x4 : Int} (rx2 : inR x2) (rx3 : inR x3) (rx4 : inR x4) (hw : kW D ca A h0 ad H0 H locs u) (hl : lv_has ls 7 [(0, .ref h0), (2, .int (jI x2)), (3, .int (jI x3)), (4, .int (jI x4))]) (h : w_termOf_147 Q x2 x3 x4 u) : W p l e R s m args below meth c H locs 0 0 Qf (F0 m 147 ls []) := by
  have hx := X.1.1
  have hb := X.1.2.1
  unfold w_termOf_147 at h
  refine lv_aload_n hx hb dX12_termOf_147 rfl (lv_at hl 0 rfl) ?_
  refine lv_iload_n hx hb dX12_termOf_148 rfl (lv_at hl 1 rfl) ?_
  refine pS 69 492 (by decide) L_69 rfl rfl rfl (fun _ _ _ _ _ => mSI_69) (by decide) X hw rx2 dX12_termOf_149 h (fun H locs u hw h => ?_)
  refine lv_aload_n hx hb dX12_termOf_152 rfl (lv_at hl 0 rfl) ?_
  refine lv_iload_n hx hb dX12_termOf_153 rfl (lv_at hl 2 rfl) ?_
  refine pS 71 486 (by decide) L_71 rfl rfl rfl (fun _ _ _ _ _ => mSI_71) (by decide) X hw rx3 dX12_termOf_154 h (fun H locs u hw h => ?_)
  refine lv_iload hx hb dX12_termOf_157 (lv_at hl 3 rfl) ?_
  refine k_if_eq hx hb rx4 dX12_termOf_159 (tgt := 186) rfl h (fun h => ?_) (fun h => ?_)
  · refine lv_iconst hx hb dX12_termOf_186 (v := jI (-1)) rfl ?_
    exact hret _ _ _ _ _ _ (by decide) h hw dX12_termOf_187
  · refine lv_aload_n hx hb dX12_termOf_162 rfl (lv_at hl 0 rfl) ?_
    refine lv_aload_n hx hb dX12_termOf_163 rfl (lv_at hl 0 rfl) ?_
    refine gA 70 154 (by decide) L_70 (fun _ _ => mF_70) rfl X hw dX12_termOf_164 ?_
    refine lv_iload_n hx hb dX12_termOf_167 rfl (lv_at hl 2 rfl) ?_
    refine aL 70 44 43 2400 (fun _ _ _ _ => mG_70) (fun _ => rfl) X hw rx3 dX12_termOf_168 rfl h (fun v5 rv5 h => ?_)
    refine kcI (n := 1) (c_sizeOf rv5 h) G_sizeOf E_sizeOf X hw (Nat.le_trans (Nat.le_of_ble_eq_true rfl) hRf) (Nat.le_trans (Nat.le_of_ble_eq_true rfl) hRl) rfl hl.1 (Nat.le_of_ble_eq_true rfl) rfl dX12_termOf_169 (fun v6 u H locs rv6 h hw => ?_)
    refine lv_bipush hx hb dX12_termOf_172 (v := jI 120) rfl ?_
    refine k_icmp_gt hx hb rv6 (by decide) dX12_termOf_174 (tgt := 186) rfl h (fun h => ?_) (fun h => ?_)
    · refine lv_iconst hx hb dX12_termOf_186 (v := jI (-1)) rfl ?_
      exact hret _ _ _ _ _ _ (by decide) h hw dX12_termOf_187
    · refine lv_aload_n hx hb dX12_termOf_177 rfl (lv_at hl 0 rfl) ?_
      refine gA 70 154 (by decide) L_70 (fun _ _ => mF_70) rfl X hw dX12_termOf_178 ?_
      refine lv_iload_n hx hb dX12_termOf_181 rfl (lv_at hl 2 rfl) ?_
      refine aL 70 44 43 2400 (fun _ _ _ _ => mG_70) (fun _ => rfl) X hw rx3 dX12_termOf_182 rfl h (fun v7 rv7 h => ?_)
      refine lv_goto hx hb dX12_termOf_183 (tgt := 187) rfl ?_
      exact hret _ _ _ _ _ _ rv7 h hw dX12_termOf_187

def w_termOf_17b (R17 : Int → Int → Int → iST → Prop) (Q : Int → iST → Prop) (x2 : Int) (x3 : Int) (x4 : Int) (u : iST) : Prop :=
  rd (u.1 69) (fun v4 => 
  br (v4 ≤ x2) (
    w_termOf_147 Q x2 x3 x4 u) (
    br (x4 = 0) (
      w_termOf_147 Q x2 x3 x4 u) (
      rd (u.1 69) (fun v8 => 
      ov (v8 - 1) (
      bd (v8 - 1) 1200 (rd (u.2.1 67 (v8 - 1)) (fun v10 => 
      br (v10 ≠ 0) (
        bd (v8 - 1) 1200 (rd (u.2.1 67 (v8 - 1)) (fun v11 => 
        bd v11 452000 (rd (u.2.1 0 v11) (fun v12 => 
        bd (v8 - 1) 1200 (rd (u.2.1 67 (v8 - 1)) (fun v13 => 
        bd v13 452000 (rd (u.2.1 1 v13) (fun v14 => 
        bd (v8 - 1) 1200 (sw (iA u 67 (v8 - 1) v14) (fun u => 
        w_beginTerm v12 (fun v15 u => 
        R17 x2 x3 v15 u) u))))))))))) (
        rd (u.1 69) (fun v16 => 
        ov (v16 - 1) (
        sw (iI u 69 (v16 - 1)) (fun u => 
        bd (v8 - 1) 1200 (rd (u.2.1 66 (v8 - 1)) (fun v18 => 
        bd v18 452000 (rd (u.2.1 0 v18) (fun v19 => 
        bd (v8 - 1) 1200 (rd (u.2.1 68 (v8 - 1)) (fun v20 => 
        w_callFrom v19 v20 (fun v21 u => 
        bd (v8 - 1) 1200 (rd (u.2.1 68 (v8 - 1)) (fun v22 => 
        sw (iI u 71 v22) (fun u => 
        w_build v21 (fun u => 
        R17 x2 x3 x4 u) u)))) u)))))))))))))))))
def w_termOf_17 (Q : Int → iST → Prop) (x2 : Int) (x3 : Int) (x4 : Int) (u : iST) : Prop := ∀ R17 : Int → Int → Int → iST → Prop, (∀ (x2 : Int) (x3 : Int) (x4 : Int) (u : iST), w_termOf_17b R17 Q x2 x3 x4 u → R17 x2 x3 x4 u) → R17 x2 x3 x4 u
set_option maxRecDepth 20000 in
set_option maxHeartbeats 4000000 in
theorem b_termOf_17 (X : kX p m c cX12_termOf 7 s args D ca) (hRf : 6 ≤ R.frames) (hRl : 133 ≤ R.locals) {Q : Int → iST → Prop} (hret : ∀ (v : Int) (u : iST) (H : Heap) (locs : List Loc) (ls : Array Slot) (pc : Nat), inR v → Q v u → kW D ca A h0 ad H0 H locs u → decode cX12_termOf pc = .ok (.ireturn, 1) → W p l e R s m args below meth c H locs 0 0 Qf (F0 m pc ls [.int (jI v)])) {x2 x3 x4 : Int} (rx2 : inR x2) (rx3 : inR x3) (rx4 : inR x4) (hw : kW D ca A h0 ad H0 H locs u) (hl : lv_has ls 7 [(0, .ref h0), (2, .int (jI x2)), (3, .int (jI x3)), (4, .int (jI x4))]) (h : w_termOf_17 Q x2 x3 x4 u) : W p l e R s m args below meth c H locs 0 0 Qf (F0 m 17 ls []) := by
  refine h (fun x2 x3 x4 u => ∀ (H : Heap) (locs : List Loc) (ls : Array Slot), inR x2 → inR x3 → inR x4 → kW D ca A h0 ad H0 H locs u → lv_has ls 7 [(0, .ref h0), (2, .int (jI x2)), (3, .int (jI x3)), (4, .int (jI x4))] → W p l e R s m args below meth c H locs 0 0 Qf (F0 m 17 ls [])) ?_ H locs ls rx2 rx3 rx4 hw hl
  clear h hl hw rx2 rx3 rx4
  intro x2 x3 x4 u h H locs ls rx2 rx3 rx4 hw hl
  have hR17 : ∀ (x2 : Int) (x3 : Int) (x4 : Int) (u : iST) (H : Heap) (locs : List Loc) (ls : Array Slot), inR x2 → inR x3 → inR x4 → kW D ca A h0 ad H0 H locs u → lv_has ls 7 [(0, .ref h0), (2, .int (jI x2)), (3, .int (jI x3)), (4, .int (jI x4))] → (fun (x2 : Int) (x3 : Int) (x4 : Int) u => ∀ (H : Heap) (locs : List Loc) (ls : Array Slot), inR x2 → inR x3 → inR x4 → kW D ca A h0 ad H0 H locs u → lv_has ls 7 [(0, .ref h0), (2, .int (jI x2)), (3, .int (jI x3)), (4, .int (jI x4))] → W p l e R s m args below meth c H locs 0 0 Qf (F0 m 17 ls [])) x2 x3 x4 u → W p l e R s m args below meth c H locs 0 0 Qf (F0 m 17 ls []) := fun x2 x3 x4 u H locs ls rx2 rx3 rx4 hw hl h => h H locs ls rx2 rx3 rx4 hw hl
  have hx := X.1.1
  have hb := X.1.2.1
  unfold w_termOf_17b at h
  refine lv_aload_n hx hb dX12_termOf_17 rfl (lv_at hl 0 rfl) ?_
  refine gS 69 492 (by decide) L_69 (fun _ _ => mF_69) rfl X hw dX12_termOf_18 h (fun v4 rv4 h => ?_)
  refine lv_iload_n hx hb dX12_termOf_21 rfl (lv_at hl 1 rfl) ?_
  refine k_icmp_le hx hb rv4 rx2 dX12_termOf_22 (tgt := 147) rfl h (fun h => ?_) (fun h => ?_)
  · exact b_termOf_147 X hRf hRl hret rx2 rx3 rx4 hw hl h
  · refine lv_iload hx hb dX12_termOf_25 (lv_at hl 3 rfl) ?_
    refine k_if_eq hx hb rx4 dX12_termOf_27 (tgt := 147) rfl h (fun h => ?_) (fun h => ?_)
    · exact b_termOf_147 X hRf hRl hret rx2 rx3 rx4 hw hl h
    · refine lv_aload_n hx hb dX12_termOf_30 rfl (lv_at hl 0 rfl) ?_
      refine gS 69 492 (by decide) L_69 (fun _ _ => mF_69) rfl X hw dX12_termOf_31 h (fun v8 rv8 h => ?_)
      refine lv_iconst hx hb dX12_termOf_34 (v := jI 1) rfl ?_
      refine k_isub hx hb dX12_termOf_35 h (fun r9 h => ?_)
      refine lv_istore hx hb dX12_termOf_36 hl (by decide) rfl (fun ls hl => ?_)
      have hl : lv_has ls 7 [(5, .int (jI (v8 - 1))), (0, .ref (h0)), (2, .int (jI x2)), (3, .int (jI x3)), (4, .int (jI x4))] := hl
      refine lv_aload_n hx hb dX12_termOf_38 rfl (lv_at hl 1 rfl) ?_
      refine gA 67 148 (by decide) L_67 (fun _ _ => mF_67) rfl X hw dX12_termOf_39 ?_
      refine lv_iload hx hb dX12_termOf_42 (lv_at hl 0 rfl) ?_
      refine aL 67 42 41 1200 (fun _ _ _ _ => mG_67) (fun _ => rfl) X hw r9 dX12_termOf_44 rfl h (fun v10 rv10 h => ?_)
      refine k_if_ne hx hb rv10 dX12_termOf_45 (tgt := 103) rfl h (fun h => ?_) (fun h => ?_)
      · refine lv_aload_n hx hb dX12_termOf_103 rfl (lv_at hl 1 rfl) ?_
        refine gA 0 8 (by decide) L_0 (fun _ _ => mF_0) rfl X hw dX12_termOf_104 ?_
        refine lv_aload_n hx hb dX12_termOf_107 rfl (lv_at hl 1 rfl) ?_
        refine gA 67 148 (by decide) L_67 (fun _ _ => mF_67) rfl X hw dX12_termOf_108 ?_
        refine lv_iload hx hb dX12_termOf_111 (lv_at hl 0 rfl) ?_
        refine aL 67 42 41 1200 (fun _ _ _ _ => mG_67) (fun _ => rfl) X hw r9 dX12_termOf_113 rfl h (fun v11 rv11 h => ?_)
        refine aL 0 1 0 452000 (fun _ _ _ _ => mG_0) (fun _ => rfl) X hw rv11 dX12_termOf_114 rfl h (fun v12 rv12 h => ?_)
        refine lv_istore hx hb dX12_termOf_115 hl (by decide) rfl (fun ls hl => ?_)
        have hl : lv_has ls 7 [(6, .int (jI v12)), (5, .int (jI (v8 - 1))), (0, .ref (h0)), (2, .int (jI x2)), (3, .int (jI x3)), (4, .int (jI x4))] := hl
        refine lv_aload_n hx hb dX12_termOf_117 rfl (lv_at hl 2 rfl) ?_
        refine gA 67 148 (by decide) L_67 (fun _ _ => mF_67) rfl X hw dX12_termOf_118 ?_
        refine lv_iload hx hb dX12_termOf_121 (lv_at hl 1 rfl) ?_
        refine lv_aload_n hx hb dX12_termOf_123 rfl (lv_at hl 2 rfl) ?_
        refine gA 1 14 (by decide) L_1 (fun _ _ => mF_1) rfl X hw dX12_termOf_124 ?_
        refine lv_aload_n hx hb dX12_termOf_127 rfl (lv_at hl 2 rfl) ?_
        refine gA 67 148 (by decide) L_67 (fun _ _ => mF_67) rfl X hw dX12_termOf_128 ?_
        refine lv_iload hx hb dX12_termOf_131 (lv_at hl 1 rfl) ?_
        refine aL 67 42 41 1200 (fun _ _ _ _ => mG_67) (fun _ => rfl) X hw r9 dX12_termOf_133 rfl h (fun v13 rv13 h => ?_)
        refine aL 1 2 1 452000 (fun _ _ _ _ => mG_1) (fun _ => rfl) X hw rv13 dX12_termOf_134 rfl h (fun v14 rv14 h => ?_)
        refine aS 67 42 41 1200 (fun _ _ _ _ => mG_67) (fun _ => rfl) (fun _ _ _ _ _ _ => mSA_67) (by decide) X hw r9 rv14 dX12_termOf_135 rfl h (fun H locs u hw h => ?_)
        refine lv_aload_n hx hb dX12_termOf_136 rfl (lv_at hl 2 rfl) ?_
        refine lv_iload hx hb dX12_termOf_137 (lv_at hl 0 rfl) ?_
        refine kcI (n := 1) (c_beginTerm rv12 h) G_beginTerm E_beginTerm X hw (Nat.le_trans (Nat.le_of_ble_eq_true rfl) hRf) (Nat.le_trans (Nat.le_of_ble_eq_true rfl) hRl) rfl hl.1 (Nat.le_of_ble_eq_true rfl) rfl dX12_termOf_139 (fun v15 u H locs rv15 h hw => ?_)
        refine lv_istore hx hb dX12_termOf_142 hl (by decide) rfl (fun ls hl => ?_)
        have hl : lv_has ls 7 [(4, .int (jI v15)), (6, .int (jI v12)), (5, .int (jI (v8 - 1))), (0, .ref (h0)), (2, .int (jI x2)), (3, .int (jI x3))] := hl
        refine lv_goto hx hb dX12_termOf_144 (tgt := 17) rfl ?_
        exact hR17 _ _ _ _ H locs ls rx2 rx3 rv15 hw (lv_sub hl [3, 4, 5, 0] rfl) h
      · refine lv_aload_n hx hb dX12_termOf_48 rfl (lv_at hl 1 rfl) ?_
        refine lv_dup hx hb dX12_termOf_49 rfl ?_
        refine gS 69 492 (by decide) L_69 (fun _ _ => mF_69) rfl X hw dX12_termOf_50 h (fun v16 rv16 h => ?_)
        refine lv_iconst hx hb dX12_termOf_53 (v := jI 1) rfl ?_
        refine k_isub hx hb dX12_termOf_54 h (fun r17 h => ?_)
        refine pS 69 492 (by decide) L_69 rfl rfl rfl (fun _ _ _ _ _ => mSI_69) (by decide) X hw r17 dX12_termOf_55 h (fun H locs u hw h => ?_)
        refine lv_aload_n hx hb dX12_termOf_58 rfl (lv_at hl 1 rfl) ?_
        refine lv_aload_n hx hb dX12_termOf_59 rfl (lv_at hl 1 rfl) ?_
        refine gA 0 8 (by decide) L_0 (fun _ _ => mF_0) rfl X hw dX12_termOf_60 ?_
        refine lv_aload_n hx hb dX12_termOf_63 rfl (lv_at hl 1 rfl) ?_
        refine gA 66 145 (by decide) L_66 (fun _ _ => mF_66) rfl X hw dX12_termOf_64 ?_
        refine lv_iload hx hb dX12_termOf_67 (lv_at hl 0 rfl) ?_
        refine aL 66 41 40 1200 (fun _ _ _ _ => mG_66) (fun _ => rfl) X hw r9 dX12_termOf_69 rfl h (fun v18 rv18 h => ?_)
        refine aL 0 1 0 452000 (fun _ _ _ _ => mG_0) (fun _ => rfl) X hw rv18 dX12_termOf_70 rfl h (fun v19 rv19 h => ?_)
        refine lv_aload_n hx hb dX12_termOf_71 rfl (lv_at hl 1 rfl) ?_
        refine gA 68 151 (by decide) L_68 (fun _ _ => mF_68) rfl X hw dX12_termOf_72 ?_
        refine lv_iload hx hb dX12_termOf_75 (lv_at hl 0 rfl) ?_
        refine aL 68 43 42 1200 (fun _ _ _ _ => mG_68) (fun _ => rfl) X hw r9 dX12_termOf_77 rfl h (fun v20 rv20 h => ?_)
        refine kcI (n := 2) (c_callFrom rv19 rv20 h) G_callFrom E_callFrom X hw (Nat.le_trans (Nat.le_of_ble_eq_true rfl) hRf) (Nat.le_trans (Nat.le_of_ble_eq_true rfl) hRl) rfl hl.1 (Nat.le_of_ble_eq_true rfl) rfl dX12_termOf_78 (fun v21 u H locs rv21 h hw => ?_)
        refine lv_istore hx hb dX12_termOf_81 hl (by decide) rfl (fun ls hl => ?_)
        have hl : lv_has ls 7 [(6, .int (jI v21)), (5, .int (jI (v8 - 1))), (0, .ref (h0)), (2, .int (jI x2)), (3, .int (jI x3)), (4, .int (jI x4))] := hl
        refine lv_aload_n hx hb dX12_termOf_83 rfl (lv_at hl 2 rfl) ?_
        refine lv_aload_n hx hb dX12_termOf_84 rfl (lv_at hl 2 rfl) ?_
        refine gA 68 151 (by decide) L_68 (fun _ _ => mF_68) rfl X hw dX12_termOf_85 ?_
        refine lv_iload hx hb dX12_termOf_88 (lv_at hl 1 rfl) ?_
        refine aL 68 43 42 1200 (fun _ _ _ _ => mG_68) (fun _ => rfl) X hw r9 dX12_termOf_90 rfl h (fun v22 rv22 h => ?_)
        refine pS 71 486 (by decide) L_71 rfl rfl rfl (fun _ _ _ _ _ => mSI_71) (by decide) X hw rv22 dX12_termOf_91 h (fun H locs u hw h => ?_)
        refine lv_aload_n hx hb dX12_termOf_94 rfl (lv_at hl 2 rfl) ?_
        refine lv_iload hx hb dX12_termOf_95 (lv_at hl 0 rfl) ?_
        refine kcV (n := 1) (c_build rv21 h) G_build E_build X hw (Nat.le_trans (Nat.le_of_ble_eq_true rfl) hRf) (Nat.le_trans (Nat.le_of_ble_eq_true rfl) hRl) rfl hl.1 (Nat.le_of_ble_eq_true rfl) rfl dX12_termOf_97 (fun u H locs h hw => ?_)
        refine lv_goto hx hb dX12_termOf_100 (tgt := 144) rfl ?_
        refine lv_goto hx hb dX12_termOf_144 (tgt := 17) rfl ?_
        exact hR17 _ _ _ _ H locs ls rx2 rx3 rx4 hw (lv_sub hl [2, 3, 4, 5] rfl) h

def w_termOf (a0 : Int) (Q : Int → iST → Prop) (u : iST) : Prop :=
  rd (u.1 69) (fun v1 => 
  rd (u.1 71) (fun v2 => 
  w_beginTerm a0 (fun v3 u => 
  w_termOf_17 Q v1 v2 v3 u) u))
set_option maxRecDepth 20000 in
set_option maxHeartbeats 4000000 in
theorem b_termOf_s (X : kX p m c cX12_termOf 7 s args D ca) (hRf : 6 ≤ R.frames) (hRl : 133 ≤ R.locals) {Q : Int → iST → Prop} (hret : ∀ (v : Int) (u : iST) (H : Heap) (locs : List Loc) (ls : Array Slot) (pc : Nat), inR v → Q v u → kW D ca A h0 ad H0 H locs u → decode cX12_termOf pc = .ok (.ireturn, 1) → W p l e R s m args below meth c H locs 0 0 Qf (F0 m pc ls [.int (jI v)])) {a0 : Int} (ra0 : inR a0) (hw : kW D ca A h0 ad H0 H locs u) (hl : lv_has ls 7 [(0, .ref h0), (1, .int (jI a0))]) (h : w_termOf a0 Q u) : W p l e R s m args below meth c H locs 0 0 Qf (F0 m 0 ls []) := by
  have hx := X.1.1
  have hb := X.1.2.1
  unfold w_termOf at h
  refine lv_aload_n hx hb dX12_termOf_0 rfl (lv_at hl 0 rfl) ?_
  refine gS 69 492 (by decide) L_69 (fun _ _ => mF_69) rfl X hw dX12_termOf_1 h (fun v1 rv1 h => ?_)
  refine lv_istore_n hx hb dX12_termOf_4 rfl hl (by decide) rfl (fun ls hl => ?_)
  have hl : lv_has ls 7 [(2, .int (jI v1)), (0, .ref (h0)), (1, .int (jI a0))] := hl
  refine lv_aload_n hx hb dX12_termOf_5 rfl (lv_at hl 1 rfl) ?_
  refine gS 71 486 (by decide) L_71 (fun _ _ => mF_71) rfl X hw dX12_termOf_6 h (fun v2 rv2 h => ?_)
  refine lv_istore_n hx hb dX12_termOf_9 rfl hl (by decide) rfl (fun ls hl => ?_)
  have hl : lv_has ls 7 [(3, .int (jI v2)), (2, .int (jI v1)), (0, .ref (h0)), (1, .int (jI a0))] := hl
  refine lv_aload_n hx hb dX12_termOf_10 rfl (lv_at hl 2 rfl) ?_
  refine lv_iload_n hx hb dX12_termOf_11 rfl (lv_at hl 3 rfl) ?_
  refine kcI (n := 1) (c_beginTerm ra0 h) G_beginTerm E_beginTerm X hw (Nat.le_trans (Nat.le_of_ble_eq_true rfl) hRf) (Nat.le_trans (Nat.le_of_ble_eq_true rfl) hRl) rfl hl.1 (Nat.le_of_ble_eq_true rfl) rfl dX12_termOf_12 (fun v3 u H locs rv3 h hw => ?_)
  refine lv_istore hx hb dX12_termOf_15 hl (by decide) rfl (fun ls hl => ?_)
  have hl : lv_has ls 7 [(4, .int (jI v3)), (3, .int (jI v2)), (2, .int (jI v1)), (0, .ref (h0)), (1, .int (jI a0))] := hl
  exact b_termOf_17 X hRf hRl hret rv1 rv2 rv3 hw (lv_sub hl [3, 2, 1, 0] rfl) h

end
theorem c_termOf {l : Launch} {a0 : Int} (ra0 : inR a0) {Q : Int → iST → Prop} {u : iST} (h : w_termOf a0 Q u) : kMI l yX12_termOf (.code yX12_termOf cX12_termOf 7 (some .int) :: wsM) { frames := 6, cells := 0, slots := 0, locals := 133 } [.int (jI a0)] Q u := kMI_of rfl (fun _ => Nat.le_of_ble_eq_true rfl) (fun X hRf hRl hret hw hl => b_termOf_s X hRf hRl hret ra0 hw hl h)

/-! made -/
theorem dX12_made_0 : decode cX12_made 0 = .ok (.aload_n 0, 1) := by decide +kernel
theorem dX12_made_1 : decode cX12_made 1 = .ok (.getfield 486, 3) := by decide +kernel
theorem dX12_made_4 : decode cX12_made 4 = .ok (.istore 5, 2) := by decide +kernel
theorem dX12_made_6 : decode cX12_made 6 = .ok (.aload_n 0, 1) := by decide +kernel
theorem dX12_made_7 : decode cX12_made 7 = .ok (.iload_n 2, 1) := by decide +kernel
theorem dX12_made_8 : decode cX12_made 8 = .ok (.invokevirtual 498, 3) := by decide +kernel
theorem dX12_made_11 : decode cX12_made 11 = .ok (.iload_n 3, 1) := by decide +kernel
theorem dX12_made_12 : decode cX12_made 12 = .ok (.iconst (-1), 1) := by decide +kernel
theorem dX12_made_13 : decode cX12_made 13 = .ok (.if_icmp .eq 8, 3) := by decide +kernel
theorem dX12_made_16 : decode cX12_made 16 = .ok (.aload_n 0, 1) := by decide +kernel
theorem dX12_made_17 : decode cX12_made 17 = .ok (.iload_n 3, 1) := by decide +kernel
theorem dX12_made_18 : decode cX12_made 18 = .ok (.invokevirtual 498, 3) := by decide +kernel
theorem dX12_made_21 : decode cX12_made 21 = .ok (.iload 4, 2) := by decide +kernel
theorem dX12_made_23 : decode cX12_made 23 = .ok (.iconst (-1), 1) := by decide +kernel
theorem dX12_made_24 : decode cX12_made 24 = .ok (.if_icmp .eq 9, 3) := by decide +kernel
theorem dX12_made_27 : decode cX12_made 27 = .ok (.aload_n 0, 1) := by decide +kernel
theorem dX12_made_28 : decode cX12_made 28 = .ok (.iload 4, 2) := by decide +kernel
theorem dX12_made_30 : decode cX12_made 30 = .ok (.invokevirtual 498, 3) := by decide +kernel
theorem dX12_made_33 : decode cX12_made 33 = .ok (.aload_n 0, 1) := by decide +kernel
theorem dX12_made_34 : decode cX12_made 34 = .ok (.iload_n 1, 1) := by decide +kernel
theorem dX12_made_35 : decode cX12_made 35 = .ok (.iload 5, 2) := by decide +kernel
theorem dX12_made_37 : decode cX12_made 37 = .ok (.invokevirtual 514, 3) := by decide +kernel
theorem dX12_made_40 : decode cX12_made 40 = .ok (.istore 6, 2) := by decide +kernel
theorem dX12_made_42 : decode cX12_made 42 = .ok (.aload_n 0, 1) := by decide +kernel
theorem dX12_made_43 : decode cX12_made 43 = .ok (.iload 5, 2) := by decide +kernel
theorem dX12_made_45 : decode cX12_made 45 = .ok (.putfield 486, 3) := by decide +kernel
theorem dX12_made_48 : decode cX12_made 48 = .ok (.aload_n 0, 1) := by decide +kernel
theorem dX12_made_49 : decode cX12_made 49 = .ok (.getfield 20, 3) := by decide +kernel
theorem dX12_made_52 : decode cX12_made 52 = .ok (.iload 6, 2) := by decide +kernel
theorem dX12_made_54 : decode cX12_made 54 = .ok (.iaload, 1) := by decide +kernel
theorem dX12_made_55 : decode cX12_made 55 = .ok (.bipush 120, 2) := by decide +kernel
theorem dX12_made_57 : decode cX12_made 57 = .ok (.if_icmp .le 8, 3) := by decide +kernel
theorem dX12_made_60 : decode cX12_made 60 = .ok (.aload_n 0, 1) := by decide +kernel
theorem dX12_made_61 : decode cX12_made 61 = .ok (.iconst 4, 1) := by decide +kernel
theorem dX12_made_62 : decode cX12_made 62 = .ok (.invokevirtual 517, 3) := by decide +kernel
theorem dX12_made_65 : decode cX12_made 65 = .ok (.iload 6, 2) := by decide +kernel
theorem dX12_made_67 : decode cX12_made 67 = .ok (.ireturn, 1) := by decide +kernel

section
variable {p : Program} {l : Launch} {e : Env} {R : Room} {s : State} {m : MethodId} {args : Array Value} {below : List Frame} {meth : Method} {c : Code} {H : Heap} {locs : List Loc} {Qf : State → Prop}
variable {ls : Array Slot} {D : va_G} {ca : Nat → ClassId} {A : Nat → Prop} {h0 : Nat} {ad : Nat → Nat} {H0 : Heap} {u : iST}
def w_made_33 (Q : Int → iST → Prop) (x1 : Int) (x5 : Int) (u : iST) : Prop :=
  w_callFrom x1 x5 (fun v3 u => 
  sw (iI u 71 x5) (fun u => 
  bd v3 452000 (rd (u.2.1 3 v3) (fun v4 => 
  br (v4 ≤ 120) (
    Q v3 u) (
    w_fail 4 (fun u => 
    Q v3 u) u))))) u
set_option maxRecDepth 20000 in
set_option maxHeartbeats 4000000 in
theorem b_made_33 (X : kX p m c cX12_made 7 s args D ca) (hRf : 4 ≤ R.frames) (hRl : 88 ≤ R.locals) {Q : Int → iST → Prop} (hret : ∀ (v : Int) (u : iST) (H : Heap) (locs : List Loc) (ls : Array Slot) (pc : Nat), inR v → Q v u → kW D ca A h0 ad H0 H locs u → decode cX12_made pc = .ok (.ireturn, 1) → W p l e R s m args below meth c H locs 0 0 Qf (F0 m pc ls [.int (jI v)])) {x1 x5 : Int} (rx1 : inR x1) (rx5 : inR x5) (hw : kW D ca A h0 ad H0 H locs u) (hl : lv_has ls 7 [(0, .ref h0), (1, .int (jI x1)), (5, .int (jI x5))]) (h : w_made_33 Q x1 x5 u) : W p l e R s m args below meth c H locs 0 0 Qf (F0 m 33 ls []) := by
  have hx := X.1.1
  have hb := X.1.2.1
  unfold w_made_33 at h
  refine lv_aload_n hx hb dX12_made_33 rfl (lv_at hl 0 rfl) ?_
  refine lv_iload_n hx hb dX12_made_34 rfl (lv_at hl 1 rfl) ?_
  refine lv_iload hx hb dX12_made_35 (lv_at hl 2 rfl) ?_
  refine kcI (n := 2) (c_callFrom rx1 rx5 h) G_callFrom E_callFrom X hw (Nat.le_trans (Nat.le_of_ble_eq_true rfl) hRf) (Nat.le_trans (Nat.le_of_ble_eq_true rfl) hRl) rfl hl.1 (Nat.le_of_ble_eq_true rfl) rfl dX12_made_37 (fun v3 u H locs rv3 h hw => ?_)
  refine lv_istore hx hb dX12_made_40 hl (by decide) rfl (fun ls hl => ?_)
  have hl : lv_has ls 7 [(6, .int (jI v3)), (0, .ref (h0)), (1, .int (jI x1)), (5, .int (jI x5))] := hl
  refine lv_aload_n hx hb dX12_made_42 rfl (lv_at hl 1 rfl) ?_
  refine lv_iload hx hb dX12_made_43 (lv_at hl 3 rfl) ?_
  refine pS 71 486 (by decide) L_71 rfl rfl rfl (fun _ _ _ _ _ => mSI_71) (by decide) X hw rx5 dX12_made_45 h (fun H locs u hw h => ?_)
  refine lv_aload_n hx hb dX12_made_48 rfl (lv_at hl 1 rfl) ?_
  refine gA 3 20 (by decide) L_3 (fun _ _ => mF_3) rfl X hw dX12_made_49 ?_
  refine lv_iload hx hb dX12_made_52 (lv_at hl 0 rfl) ?_
  refine aL 3 4 3 452000 (fun _ _ _ _ => mG_3) (fun _ => rfl) X hw rv3 dX12_made_54 rfl h (fun v4 rv4 h => ?_)
  refine lv_bipush hx hb dX12_made_55 (v := jI 120) rfl ?_
  refine k_icmp_le hx hb rv4 (by decide) dX12_made_57 (tgt := 65) rfl h (fun h => ?_) (fun h => ?_)
  · refine lv_iload hx hb dX12_made_65 (lv_at hl 0 rfl) ?_
    exact hret _ _ _ _ _ _ rv3 h hw dX12_made_67
  · refine lv_aload_n hx hb dX12_made_60 rfl (lv_at hl 1 rfl) ?_
    refine lv_iconst hx hb dX12_made_61 (v := jI 4) rfl ?_
    refine kcV (n := 1) (c_fail (by decide) h) G_fail E_fail X hw (Nat.le_trans (Nat.le_of_ble_eq_true rfl) hRf) (Nat.le_trans (Nat.le_of_ble_eq_true rfl) hRl) rfl hl.1 (Nat.le_of_ble_eq_true rfl) rfl dX12_made_62 (fun u H locs h hw => ?_)
    refine lv_iload hx hb dX12_made_65 (lv_at hl 0 rfl) ?_
    exact hret _ _ _ _ _ _ rv3 h hw dX12_made_67

def w_made_21 (Q : Int → iST → Prop) (x1 : Int) (x4 : Int) (x5 : Int) (u : iST) : Prop :=
  br (x4 = (-1)) (
    w_made_33 Q x1 x5 u) (
    w_build x4 (fun u => 
    w_made_33 Q x1 x5 u) u)
set_option maxRecDepth 20000 in
set_option maxHeartbeats 4000000 in
theorem b_made_21 (X : kX p m c cX12_made 7 s args D ca) (hRf : 4 ≤ R.frames) (hRl : 88 ≤ R.locals) {Q : Int → iST → Prop} (hret : ∀ (v : Int) (u : iST) (H : Heap) (locs : List Loc) (ls : Array Slot) (pc : Nat), inR v → Q v u → kW D ca A h0 ad H0 H locs u → decode cX12_made pc = .ok (.ireturn, 1) → W p l e R s m args below meth c H locs 0 0 Qf (F0 m pc ls [.int (jI v)])) {x1 x4 x5 : Int} (rx1 : inR x1) (rx4 : inR x4) (rx5 : inR x5) (hw : kW D ca A h0 ad H0 H locs u) (hl : lv_has ls 7 [(0, .ref h0), (1, .int (jI x1)), (4, .int (jI x4)), (5, .int (jI x5))]) (h : w_made_21 Q x1 x4 x5 u) : W p l e R s m args below meth c H locs 0 0 Qf (F0 m 21 ls []) := by
  have hx := X.1.1
  have hb := X.1.2.1
  unfold w_made_21 at h
  refine lv_iload hx hb dX12_made_21 (lv_at hl 2 rfl) ?_
  refine lv_iconst hx hb dX12_made_23 (v := jI (-1)) rfl ?_
  refine k_icmp_eq hx hb rx4 (by decide) dX12_made_24 (tgt := 33) rfl h (fun h => ?_) (fun h => ?_)
  · exact b_made_33 X hRf hRl hret rx1 rx5 hw (lv_sub hl [0, 1, 3] rfl) h
  · refine lv_aload_n hx hb dX12_made_27 rfl (lv_at hl 0 rfl) ?_
    refine lv_iload hx hb dX12_made_28 (lv_at hl 2 rfl) ?_
    refine kcV (n := 1) (c_build rx4 h) G_build E_build X hw (Nat.le_trans (Nat.le_of_ble_eq_true rfl) hRf) (Nat.le_trans (Nat.le_of_ble_eq_true rfl) hRl) rfl hl.1 (Nat.le_of_ble_eq_true rfl) rfl dX12_made_30 (fun u H locs h hw => ?_)
    exact b_made_33 X hRf hRl hret rx1 rx5 hw (lv_sub hl [0, 1, 3] rfl) h

def w_made (a0 : Int) (a1 : Int) (a2 : Int) (a3 : Int) (Q : Int → iST → Prop) (u : iST) : Prop :=
  rd (u.1 71) (fun v1 => 
  w_build a1 (fun u => 
  br (a2 = (-1)) (
    w_made_21 Q a0 a3 v1 u) (
    w_build a2 (fun u => 
    w_made_21 Q a0 a3 v1 u) u)) u)
set_option maxRecDepth 20000 in
set_option maxHeartbeats 4000000 in
theorem b_made_s (X : kX p m c cX12_made 7 s args D ca) (hRf : 4 ≤ R.frames) (hRl : 88 ≤ R.locals) {Q : Int → iST → Prop} (hret : ∀ (v : Int) (u : iST) (H : Heap) (locs : List Loc) (ls : Array Slot) (pc : Nat), inR v → Q v u → kW D ca A h0 ad H0 H locs u → decode cX12_made pc = .ok (.ireturn, 1) → W p l e R s m args below meth c H locs 0 0 Qf (F0 m pc ls [.int (jI v)])) {a0 a1 a2 a3 : Int} (ra0 : inR a0) (ra1 : inR a1) (ra2 : inR a2) (ra3 : inR a3) (hw : kW D ca A h0 ad H0 H locs u) (hl : lv_has ls 7 [(0, .ref h0), (1, .int (jI a0)), (2, .int (jI a1)), (3, .int (jI a2)), (4, .int (jI a3))]) (h : w_made a0 a1 a2 a3 Q u) : W p l e R s m args below meth c H locs 0 0 Qf (F0 m 0 ls []) := by
  have hx := X.1.1
  have hb := X.1.2.1
  unfold w_made at h
  refine lv_aload_n hx hb dX12_made_0 rfl (lv_at hl 0 rfl) ?_
  refine gS 71 486 (by decide) L_71 (fun _ _ => mF_71) rfl X hw dX12_made_1 h (fun v1 rv1 h => ?_)
  refine lv_istore hx hb dX12_made_4 hl (by decide) rfl (fun ls hl => ?_)
  have hl : lv_has ls 7 [(5, .int (jI v1)), (0, .ref (h0)), (1, .int (jI a0)), (2, .int (jI a1)), (3, .int (jI a2)), (4, .int (jI a3))] := hl
  refine lv_aload_n hx hb dX12_made_6 rfl (lv_at hl 1 rfl) ?_
  refine lv_iload_n hx hb dX12_made_7 rfl (lv_at hl 3 rfl) ?_
  refine kcV (n := 1) (c_build ra1 h) G_build E_build X hw (Nat.le_trans (Nat.le_of_ble_eq_true rfl) hRf) (Nat.le_trans (Nat.le_of_ble_eq_true rfl) hRl) rfl hl.1 (Nat.le_of_ble_eq_true rfl) rfl dX12_made_8 (fun u H locs h hw => ?_)
  refine lv_iload_n hx hb dX12_made_11 rfl (lv_at hl 4 rfl) ?_
  refine lv_iconst hx hb dX12_made_12 (v := jI (-1)) rfl ?_
  refine k_icmp_eq hx hb ra2 (by decide) dX12_made_13 (tgt := 21) rfl h (fun h => ?_) (fun h => ?_)
  · exact b_made_21 X hRf hRl hret ra0 ra3 rv1 hw (lv_sub hl [1, 2, 5, 0] rfl) h
  · refine lv_aload_n hx hb dX12_made_16 rfl (lv_at hl 1 rfl) ?_
    refine lv_iload_n hx hb dX12_made_17 rfl (lv_at hl 4 rfl) ?_
    refine kcV (n := 1) (c_build ra2 h) G_build E_build X hw (Nat.le_trans (Nat.le_of_ble_eq_true rfl) hRf) (Nat.le_trans (Nat.le_of_ble_eq_true rfl) hRl) rfl hl.1 (Nat.le_of_ble_eq_true rfl) rfl dX12_made_18 (fun u H locs h hw => ?_)
    exact b_made_21 X hRf hRl hret ra0 ra3 rv1 hw (lv_sub hl [1, 2, 5, 0] rfl) h

end
theorem c_made {l : Launch} {a0 : Int} {a1 : Int} {a2 : Int} {a3 : Int} (ra0 : inR a0) (ra1 : inR a1) (ra2 : inR a2) (ra3 : inR a3) {Q : Int → iST → Prop} {u : iST} (h : w_made a0 a1 a2 a3 Q u) : kMI l yX12_made (.code yX12_made cX12_made 7 (some .int) :: wsM) { frames := 4, cells := 0, slots := 0, locals := 88 } [.int (jI a0), .int (jI a1), .int (jI a2), .int (jI a3)] Q u := kMI_of rfl (fun _ => Nat.le_of_ble_eq_true rfl) (fun X hRf hRl hret hw hl => b_made_s X hRf hRl hret ra0 ra1 ra2 ra3 hw hl h)

/-! made2 -/
theorem dX12_made2_0 : decode cX12_made2 0 = .ok (.aload_n 0, 1) := by decide +kernel
theorem dX12_made2_1 : decode cX12_made2 1 = .ok (.iload_n 1, 1) := by decide +kernel
theorem dX12_made2_2 : decode cX12_made2 2 = .ok (.iload_n 2, 1) := by decide +kernel
theorem dX12_made2_3 : decode cX12_made2 3 = .ok (.iload_n 3, 1) := by decide +kernel
theorem dX12_made2_4 : decode cX12_made2 4 = .ok (.iconst (-1), 1) := by decide +kernel
theorem dX12_made2_5 : decode cX12_made2 5 = .ok (.invokevirtual 538, 3) := by decide +kernel
theorem dX12_made2_8 : decode cX12_made2 8 = .ok (.ireturn, 1) := by decide +kernel

section
variable {p : Program} {l : Launch} {e : Env} {R : Room} {s : State} {m : MethodId} {args : Array Value} {below : List Frame} {meth : Method} {c : Code} {H : Heap} {locs : List Loc} {Qf : State → Prop}
variable {ls : Array Slot} {D : va_G} {ca : Nat → ClassId} {A : Nat → Prop} {h0 : Nat} {ad : Nat → Nat} {H0 : Heap} {u : iST}
def w_made2 (a0 : Int) (a1 : Int) (a2 : Int) (Q : Int → iST → Prop) (u : iST) : Prop :=
  w_made a0 a1 a2 (-1) (fun v1 u => 
  Q v1 u) u
set_option maxRecDepth 20000 in
set_option maxHeartbeats 4000000 in
theorem b_made2_s (X : kX p m c cX12_made2 4 s args D ca) (hRf : 5 ≤ R.frames) (hRl : 114 ≤ R.locals) {Q : Int → iST → Prop} (hret : ∀ (v : Int) (u : iST) (H : Heap) (locs : List Loc) (ls : Array Slot) (pc : Nat), inR v → Q v u → kW D ca A h0 ad H0 H locs u → decode cX12_made2 pc = .ok (.ireturn, 1) → W p l e R s m args below meth c H locs 0 0 Qf (F0 m pc ls [.int (jI v)])) {a0 a1 a2 : Int} (ra0 : inR a0) (ra1 : inR a1) (ra2 : inR a2) (hw : kW D ca A h0 ad H0 H locs u) (hl : lv_has ls 4 [(0, .ref h0), (1, .int (jI a0)), (2, .int (jI a1)), (3, .int (jI a2))]) (h : w_made2 a0 a1 a2 Q u) : W p l e R s m args below meth c H locs 0 0 Qf (F0 m 0 ls []) := by
  have hx := X.1.1
  have hb := X.1.2.1
  unfold w_made2 at h
  refine lv_aload_n hx hb dX12_made2_0 rfl (lv_at hl 0 rfl) ?_
  refine lv_iload_n hx hb dX12_made2_1 rfl (lv_at hl 1 rfl) ?_
  refine lv_iload_n hx hb dX12_made2_2 rfl (lv_at hl 2 rfl) ?_
  refine lv_iload_n hx hb dX12_made2_3 rfl (lv_at hl 3 rfl) ?_
  refine lv_iconst hx hb dX12_made2_4 (v := jI (-1)) rfl ?_
  refine kcI (n := 4) (c_made ra0 ra1 ra2 (by decide) h) G_made E_made X hw (Nat.le_trans (Nat.le_of_ble_eq_true rfl) hRf) (Nat.le_trans (Nat.le_of_ble_eq_true rfl) hRl) rfl hl.1 (Nat.le_of_ble_eq_true rfl) rfl dX12_made2_5 (fun v1 u H locs rv1 h hw => ?_)
  exact hret _ _ _ _ _ _ rv1 h hw dX12_made2_8

end
theorem c_made2 {l : Launch} {a0 : Int} {a1 : Int} {a2 : Int} (ra0 : inR a0) (ra1 : inR a1) (ra2 : inR a2) {Q : Int → iST → Prop} {u : iST} (h : w_made2 a0 a1 a2 Q u) : kMI l yX12_made2 (.code yX12_made2 cX12_made2 4 (some .int) :: wsM) { frames := 5, cells := 0, slots := 0, locals := 114 } [.int (jI a0), .int (jI a1), .int (jI a2)] Q u := kMI_of rfl (fun _ => Nat.le_of_ble_eq_true rfl) (fun X hRf hRl hret hw hl => b_made2_s X hRf hRl hret ra0 ra1 ra2 hw hl h)

/-! notOf -/
theorem dX12_notOf_0 : decode cX12_notOf 0 = .ok (.aload_n 0, 1) := by decide +kernel
theorem dX12_notOf_1 : decode cX12_notOf 1 = .ok (.iload_n 1, 1) := by decide +kernel
theorem dX12_notOf_2 : decode cX12_notOf 2 = .ok (.bipush 15, 2) := by decide +kernel
theorem dX12_notOf_4 : decode cX12_notOf 4 = .ok (.invokevirtual 542, 3) := by decide +kernel
theorem dX12_notOf_7 : decode cX12_notOf 7 = .ok (.ifCond .eq 15, 3) := by decide +kernel
theorem dX12_notOf_10 : decode cX12_notOf 10 = .ok (.aload_n 0, 1) := by decide +kernel
theorem dX12_notOf_11 : decode cX12_notOf 11 = .ok (.getfield 8, 3) := by decide +kernel
theorem dX12_notOf_14 : decode cX12_notOf 14 = .ok (.aload_n 0, 1) := by decide +kernel
theorem dX12_notOf_15 : decode cX12_notOf 15 = .ok (.getfield 14, 3) := by decide +kernel
theorem dX12_notOf_18 : decode cX12_notOf 18 = .ok (.iload_n 1, 1) := by decide +kernel
theorem dX12_notOf_19 : decode cX12_notOf 19 = .ok (.iaload, 1) := by decide +kernel
theorem dX12_notOf_20 : decode cX12_notOf 20 = .ok (.iaload, 1) := by decide +kernel
theorem dX12_notOf_21 : decode cX12_notOf 21 = .ok (.ireturn, 1) := by decide +kernel
theorem dX12_notOf_22 : decode cX12_notOf 22 = .ok (.iload_n 1, 1) := by decide +kernel
theorem dX12_notOf_23 : decode cX12_notOf 23 = .ok (.ifCond .ne 5, 3) := by decide +kernel
theorem dX12_notOf_26 : decode cX12_notOf 26 = .ok (.iconst 1, 1) := by decide +kernel
theorem dX12_notOf_27 : decode cX12_notOf 27 = .ok (.ireturn, 1) := by decide +kernel
theorem dX12_notOf_28 : decode cX12_notOf 28 = .ok (.aload_n 0, 1) := by decide +kernel
theorem dX12_notOf_29 : decode cX12_notOf 29 = .ok (.iload_n 1, 1) := by decide +kernel
theorem dX12_notOf_30 : decode cX12_notOf 30 = .ok (.invokevirtual 546, 3) := by decide +kernel
theorem dX12_notOf_33 : decode cX12_notOf 33 = .ok (.ifCond .eq 7, 3) := by decide +kernel
theorem dX12_notOf_36 : decode cX12_notOf 36 = .ok (.iconst 0, 1) := by decide +kernel
theorem dX12_notOf_37 : decode cX12_notOf 37 = .ok (.goto 12, 3) := by decide +kernel
theorem dX12_notOf_40 : decode cX12_notOf 40 = .ok (.aload_n 0, 1) := by decide +kernel
theorem dX12_notOf_41 : decode cX12_notOf 41 = .ok (.bipush 15, 2) := by decide +kernel
theorem dX12_notOf_43 : decode cX12_notOf 43 = .ok (.iload_n 1, 1) := by decide +kernel
theorem dX12_notOf_44 : decode cX12_notOf 44 = .ok (.iconst (-1), 1) := by decide +kernel
theorem dX12_notOf_45 : decode cX12_notOf 45 = .ok (.iconst (-1), 1) := by decide +kernel
theorem dX12_notOf_46 : decode cX12_notOf 46 = .ok (.invokevirtual 538, 3) := by decide +kernel
theorem dX12_notOf_49 : decode cX12_notOf 49 = .ok (.ireturn, 1) := by decide +kernel

section
variable {p : Program} {l : Launch} {e : Env} {R : Room} {s : State} {m : MethodId} {args : Array Value} {below : List Frame} {meth : Method} {c : Code} {H : Heap} {locs : List Loc} {Qf : State → Prop}
variable {ls : Array Slot} {D : va_G} {ca : Nat → ClassId} {A : Nat → Prop} {h0 : Nat} {ad : Nat → Nat} {H0 : Heap} {u : iST}
def w_notOf (a0 : Int) (Q : Int → iST → Prop) (u : iST) : Prop :=
  w_isCallOf a0 15 (fun v1 u => 
  br (v1 = 0) (
    br (a0 ≠ 0) (
      w_isConstant a0 (fun v2 u => 
      br (v2 = 0) (
        w_made 15 a0 (-1) (-1) (fun v3 u => 
        Q v3 u) u) (
        Q 0 u)) u) (
      Q 1 u)) (
    bd a0 452000 (rd (u.2.1 1 a0) (fun v4 => 
    bd v4 452000 (rd (u.2.1 0 v4) (fun v5 => 
    Q v5 u)))))) u
set_option maxRecDepth 20000 in
set_option maxHeartbeats 4000000 in
theorem b_notOf_s (X : kX p m c cX12_notOf 2 s args D ca) (hRf : 5 ≤ R.frames) (hRl : 114 ≤ R.locals) {Q : Int → iST → Prop} (hret : ∀ (v : Int) (u : iST) (H : Heap) (locs : List Loc) (ls : Array Slot) (pc : Nat), inR v → Q v u → kW D ca A h0 ad H0 H locs u → decode cX12_notOf pc = .ok (.ireturn, 1) → W p l e R s m args below meth c H locs 0 0 Qf (F0 m pc ls [.int (jI v)])) {a0 : Int} (ra0 : inR a0) (hw : kW D ca A h0 ad H0 H locs u) (hl : lv_has ls 2 [(0, .ref h0), (1, .int (jI a0))]) (h : w_notOf a0 Q u) : W p l e R s m args below meth c H locs 0 0 Qf (F0 m 0 ls []) := by
  have hx := X.1.1
  have hb := X.1.2.1
  unfold w_notOf at h
  refine lv_aload_n hx hb dX12_notOf_0 rfl (lv_at hl 0 rfl) ?_
  refine lv_iload_n hx hb dX12_notOf_1 rfl (lv_at hl 1 rfl) ?_
  refine lv_bipush hx hb dX12_notOf_2 (v := jI 15) rfl ?_
  refine kcI (n := 2) (c_isCallOf ra0 (by decide) h) G_isCallOf E_isCallOf X hw (Nat.le_trans (Nat.le_of_ble_eq_true rfl) hRf) (Nat.le_trans (Nat.le_of_ble_eq_true rfl) hRl) rfl hl.1 (Nat.le_of_ble_eq_true rfl) rfl dX12_notOf_4 (fun v1 u H locs rv1 h hw => ?_)
  refine k_if_eq hx hb rv1 dX12_notOf_7 (tgt := 22) rfl h (fun h => ?_) (fun h => ?_)
  · refine lv_iload_n hx hb dX12_notOf_22 rfl (lv_at hl 1 rfl) ?_
    refine k_if_ne hx hb ra0 dX12_notOf_23 (tgt := 28) rfl h (fun h => ?_) (fun h => ?_)
    · refine lv_aload_n hx hb dX12_notOf_28 rfl (lv_at hl 0 rfl) ?_
      refine lv_iload_n hx hb dX12_notOf_29 rfl (lv_at hl 1 rfl) ?_
      refine kcI (n := 1) (c_isConstant ra0 h) G_isConstant E_isConstant X hw (Nat.le_trans (Nat.le_of_ble_eq_true rfl) hRf) (Nat.le_trans (Nat.le_of_ble_eq_true rfl) hRl) rfl hl.1 (Nat.le_of_ble_eq_true rfl) rfl dX12_notOf_30 (fun v2 u H locs rv2 h hw => ?_)
      refine k_if_eq hx hb rv2 dX12_notOf_33 (tgt := 40) rfl h (fun h => ?_) (fun h => ?_)
      · refine lv_aload_n hx hb dX12_notOf_40 rfl (lv_at hl 0 rfl) ?_
        refine lv_bipush hx hb dX12_notOf_41 (v := jI 15) rfl ?_
        refine lv_iload_n hx hb dX12_notOf_43 rfl (lv_at hl 1 rfl) ?_
        refine lv_iconst hx hb dX12_notOf_44 (v := jI (-1)) rfl ?_
        refine lv_iconst hx hb dX12_notOf_45 (v := jI (-1)) rfl ?_
        refine kcI (n := 4) (c_made (by decide) ra0 (by decide) (by decide) h) G_made E_made X hw (Nat.le_trans (Nat.le_of_ble_eq_true rfl) hRf) (Nat.le_trans (Nat.le_of_ble_eq_true rfl) hRl) rfl hl.1 (Nat.le_of_ble_eq_true rfl) rfl dX12_notOf_46 (fun v3 u H locs rv3 h hw => ?_)
        exact hret _ _ _ _ _ _ rv3 h hw dX12_notOf_49
      · refine lv_iconst hx hb dX12_notOf_36 (v := jI 0) rfl ?_
        refine lv_goto hx hb dX12_notOf_37 (tgt := 49) rfl ?_
        exact hret _ _ _ _ _ _ (by decide) h hw dX12_notOf_49
    · refine lv_iconst hx hb dX12_notOf_26 (v := jI 1) rfl ?_
      exact hret _ _ _ _ _ _ (by decide) h hw dX12_notOf_27
  · refine lv_aload_n hx hb dX12_notOf_10 rfl (lv_at hl 0 rfl) ?_
    refine gA 0 8 (by decide) L_0 (fun _ _ => mF_0) rfl X hw dX12_notOf_11 ?_
    refine lv_aload_n hx hb dX12_notOf_14 rfl (lv_at hl 0 rfl) ?_
    refine gA 1 14 (by decide) L_1 (fun _ _ => mF_1) rfl X hw dX12_notOf_15 ?_
    refine lv_iload_n hx hb dX12_notOf_18 rfl (lv_at hl 1 rfl) ?_
    refine aL 1 2 1 452000 (fun _ _ _ _ => mG_1) (fun _ => rfl) X hw ra0 dX12_notOf_19 rfl h (fun v4 rv4 h => ?_)
    refine aL 0 1 0 452000 (fun _ _ _ _ => mG_0) (fun _ => rfl) X hw rv4 dX12_notOf_20 rfl h (fun v5 rv5 h => ?_)
    exact hret _ _ _ _ _ _ rv5 h hw dX12_notOf_21

end
theorem c_notOf {l : Launch} {a0 : Int} (ra0 : inR a0) {Q : Int → iST → Prop} {u : iST} (h : w_notOf a0 Q u) : kMI l yX12_notOf (.code yX12_notOf cX12_notOf 2 (some .int) :: wsM) { frames := 5, cells := 0, slots := 0, locals := 114 } [.int (jI a0)] Q u := kMI_of rfl (fun _ => Nat.le_of_ble_eq_true rfl) (fun X hRf hRl hret hw hl => b_notOf_s X hRf hRl hret ra0 hw hl h)

/-! isBoolean -/
theorem dX12_isBoolean_0 : decode cX12_isBoolean 0 = .ok (.iload_n 1, 1) := by decide +kernel
theorem dX12_isBoolean_1 : decode cX12_isBoolean 1 = .ok (.iconst 1, 1) := by decide +kernel
theorem dX12_isBoolean_2 : decode cX12_isBoolean 2 = .ok (.if_icmp .eq 76, 3) := by decide +kernel
theorem dX12_isBoolean_5 : decode cX12_isBoolean 5 = .ok (.iload_n 1, 1) := by decide +kernel
theorem dX12_isBoolean_6 : decode cX12_isBoolean 6 = .ok (.ifCond .eq 72, 3) := by decide +kernel
theorem dX12_isBoolean_9 : decode cX12_isBoolean 9 = .ok (.aload_n 0, 1) := by decide +kernel
theorem dX12_isBoolean_10 : decode cX12_isBoolean 10 = .ok (.iload_n 1, 1) := by decide +kernel
theorem dX12_isBoolean_11 : decode cX12_isBoolean 11 = .ok (.iconst 4, 1) := by decide +kernel
theorem dX12_isBoolean_12 : decode cX12_isBoolean 12 = .ok (.invokevirtual 542, 3) := by decide +kernel
theorem dX12_isBoolean_15 : decode cX12_isBoolean 15 = .ok (.ifCond .ne 63, 3) := by decide +kernel
theorem dX12_isBoolean_18 : decode cX12_isBoolean 18 = .ok (.aload_n 0, 1) := by decide +kernel
theorem dX12_isBoolean_19 : decode cX12_isBoolean 19 = .ok (.iload_n 1, 1) := by decide +kernel
theorem dX12_isBoolean_20 : decode cX12_isBoolean 20 = .ok (.bipush 6, 2) := by decide +kernel
theorem dX12_isBoolean_22 : decode cX12_isBoolean 22 = .ok (.invokevirtual 542, 3) := by decide +kernel
theorem dX12_isBoolean_25 : decode cX12_isBoolean 25 = .ok (.ifCond .ne 53, 3) := by decide +kernel
theorem dX12_isBoolean_28 : decode cX12_isBoolean 28 = .ok (.aload_n 0, 1) := by decide +kernel
theorem dX12_isBoolean_29 : decode cX12_isBoolean 29 = .ok (.iload_n 1, 1) := by decide +kernel
theorem dX12_isBoolean_30 : decode cX12_isBoolean 30 = .ok (.bipush 9, 2) := by decide +kernel
theorem dX12_isBoolean_32 : decode cX12_isBoolean 32 = .ok (.invokevirtual 542, 3) := by decide +kernel
theorem dX12_isBoolean_35 : decode cX12_isBoolean 35 = .ok (.ifCond .ne 43, 3) := by decide +kernel
theorem dX12_isBoolean_38 : decode cX12_isBoolean 38 = .ok (.aload_n 0, 1) := by decide +kernel
theorem dX12_isBoolean_39 : decode cX12_isBoolean 39 = .ok (.iload_n 1, 1) := by decide +kernel
theorem dX12_isBoolean_40 : decode cX12_isBoolean 40 = .ok (.bipush 10, 2) := by decide +kernel
theorem dX12_isBoolean_42 : decode cX12_isBoolean 42 = .ok (.invokevirtual 542, 3) := by decide +kernel
theorem dX12_isBoolean_45 : decode cX12_isBoolean 45 = .ok (.ifCond .ne 33, 3) := by decide +kernel
theorem dX12_isBoolean_48 : decode cX12_isBoolean 48 = .ok (.aload_n 0, 1) := by decide +kernel
theorem dX12_isBoolean_49 : decode cX12_isBoolean 49 = .ok (.iload_n 1, 1) := by decide +kernel
theorem dX12_isBoolean_50 : decode cX12_isBoolean 50 = .ok (.bipush 13, 2) := by decide +kernel
theorem dX12_isBoolean_52 : decode cX12_isBoolean 52 = .ok (.invokevirtual 542, 3) := by decide +kernel
theorem dX12_isBoolean_55 : decode cX12_isBoolean 55 = .ok (.ifCond .ne 23, 3) := by decide +kernel
theorem dX12_isBoolean_58 : decode cX12_isBoolean 58 = .ok (.aload_n 0, 1) := by decide +kernel
theorem dX12_isBoolean_59 : decode cX12_isBoolean 59 = .ok (.iload_n 1, 1) := by decide +kernel
theorem dX12_isBoolean_60 : decode cX12_isBoolean 60 = .ok (.bipush 14, 2) := by decide +kernel
theorem dX12_isBoolean_62 : decode cX12_isBoolean 62 = .ok (.invokevirtual 542, 3) := by decide +kernel
theorem dX12_isBoolean_65 : decode cX12_isBoolean 65 = .ok (.ifCond .ne 13, 3) := by decide +kernel
theorem dX12_isBoolean_68 : decode cX12_isBoolean 68 = .ok (.aload_n 0, 1) := by decide +kernel
theorem dX12_isBoolean_69 : decode cX12_isBoolean 69 = .ok (.iload_n 1, 1) := by decide +kernel
theorem dX12_isBoolean_70 : decode cX12_isBoolean 70 = .ok (.bipush 15, 2) := by decide +kernel
theorem dX12_isBoolean_72 : decode cX12_isBoolean 72 = .ok (.invokevirtual 542, 3) := by decide +kernel
theorem dX12_isBoolean_75 : decode cX12_isBoolean 75 = .ok (.ifCond .eq 7, 3) := by decide +kernel
theorem dX12_isBoolean_78 : decode cX12_isBoolean 78 = .ok (.iconst 1, 1) := by decide +kernel
theorem dX12_isBoolean_79 : decode cX12_isBoolean 79 = .ok (.goto 4, 3) := by decide +kernel
theorem dX12_isBoolean_82 : decode cX12_isBoolean 82 = .ok (.iconst 0, 1) := by decide +kernel
theorem dX12_isBoolean_83 : decode cX12_isBoolean 83 = .ok (.ireturn, 1) := by decide +kernel

section
variable {p : Program} {l : Launch} {e : Env} {R : Room} {s : State} {m : MethodId} {args : Array Value} {below : List Frame} {meth : Method} {c : Code} {H : Heap} {locs : List Loc} {Qf : State → Prop}
variable {ls : Array Slot} {D : va_G} {ca : Nat → ClassId} {A : Nat → Prop} {h0 : Nat} {ad : Nat → Nat} {H0 : Heap} {u : iST}
def w_isBoolean (a0 : Int) (Q : Int → iST → Prop) (u : iST) : Prop :=
  br (a0 = 1) (
    zt 1 (Q 1 u)) (
    br (a0 = 0) (
      zt 1 (Q 1 u)) (
      w_isCallOf a0 4 (fun v1 u => 
      br (v1 ≠ 0) (
        zt 1 (Q 1 u)) (
        w_isCallOf a0 6 (fun v2 u => 
        br (v2 ≠ 0) (
          zt 1 (Q 1 u)) (
          w_isCallOf a0 9 (fun v3 u => 
          br (v3 ≠ 0) (
            zt 1 (Q 1 u)) (
            w_isCallOf a0 10 (fun v4 u => 
            br (v4 ≠ 0) (
              zt 1 (Q 1 u)) (
              w_isCallOf a0 13 (fun v5 u => 
              br (v5 ≠ 0) (
                zt 1 (Q 1 u)) (
                w_isCallOf a0 14 (fun v6 u => 
                br (v6 ≠ 0) (
                  zt 1 (Q 1 u)) (
                  w_isCallOf a0 15 (fun v7 u => 
                  br (v7 = 0) (
                    zt 0 (Q 0 u)) (
                    zt 1 (Q 1 u))) u)) u)) u)) u)) u)) u)) u))
set_option maxRecDepth 20000 in
set_option maxHeartbeats 4000000 in
theorem b_isBoolean_s (X : kX p m c cX12_isBoolean 2 s args D ca) (hRf : 2 ≤ R.frames) (hRl : 43 ≤ R.locals) {Q : Int → iST → Prop} (hret : ∀ (v : Int) (u : iST) (H : Heap) (locs : List Loc) (ls : Array Slot) (pc : Nat), bz v → Q v u → kW D ca A h0 ad H0 H locs u → decode cX12_isBoolean pc = .ok (.ireturn, 1) → W p l e R s m args below meth c H locs 0 0 Qf (F0 m pc ls [.int (jI v)])) {a0 : Int} (ra0 : inR a0) (hw : kW D ca A h0 ad H0 H locs u) (hl : lv_has ls 2 [(0, .ref h0), (1, .int (jI a0))]) (h : w_isBoolean a0 Q u) : W p l e R s m args below meth c H locs 0 0 Qf (F0 m 0 ls []) := by
  have hx := X.1.1
  have hb := X.1.2.1
  unfold w_isBoolean at h
  refine lv_iload_n hx hb dX12_isBoolean_0 rfl (lv_at hl 1 rfl) ?_
  refine lv_iconst hx hb dX12_isBoolean_1 (v := jI 1) rfl ?_
  refine k_icmp_eq hx hb ra0 (by decide) dX12_isBoolean_2 (tgt := 78) rfl h (fun h => ?_) (fun h => ?_)
  · refine lv_iconst hx hb dX12_isBoolean_78 (v := jI 1) rfl ?_
    refine lv_goto hx hb dX12_isBoolean_79 (tgt := 83) rfl ?_
    exact hret _ _ _ _ _ _ h.1 h.2 hw dX12_isBoolean_83
  · refine lv_iload_n hx hb dX12_isBoolean_5 rfl (lv_at hl 1 rfl) ?_
    refine k_if_eq hx hb ra0 dX12_isBoolean_6 (tgt := 78) rfl h (fun h => ?_) (fun h => ?_)
    · refine lv_iconst hx hb dX12_isBoolean_78 (v := jI 1) rfl ?_
      refine lv_goto hx hb dX12_isBoolean_79 (tgt := 83) rfl ?_
      exact hret _ _ _ _ _ _ h.1 h.2 hw dX12_isBoolean_83
    · refine lv_aload_n hx hb dX12_isBoolean_9 rfl (lv_at hl 0 rfl) ?_
      refine lv_iload_n hx hb dX12_isBoolean_10 rfl (lv_at hl 1 rfl) ?_
      refine lv_iconst hx hb dX12_isBoolean_11 (v := jI 4) rfl ?_
      refine kcI (n := 2) (c_isCallOf ra0 (by decide) h) G_isCallOf E_isCallOf X hw (Nat.le_trans (Nat.le_of_ble_eq_true rfl) hRf) (Nat.le_trans (Nat.le_of_ble_eq_true rfl) hRl) rfl hl.1 (Nat.le_of_ble_eq_true rfl) rfl dX12_isBoolean_12 (fun v1 u H locs rv1 h hw => ?_)
      refine k_if_ne hx hb rv1 dX12_isBoolean_15 (tgt := 78) rfl h (fun h => ?_) (fun h => ?_)
      · refine lv_iconst hx hb dX12_isBoolean_78 (v := jI 1) rfl ?_
        refine lv_goto hx hb dX12_isBoolean_79 (tgt := 83) rfl ?_
        exact hret _ _ _ _ _ _ h.1 h.2 hw dX12_isBoolean_83
      · refine lv_aload_n hx hb dX12_isBoolean_18 rfl (lv_at hl 0 rfl) ?_
        refine lv_iload_n hx hb dX12_isBoolean_19 rfl (lv_at hl 1 rfl) ?_
        refine lv_bipush hx hb dX12_isBoolean_20 (v := jI 6) rfl ?_
        refine kcI (n := 2) (c_isCallOf ra0 (by decide) h) G_isCallOf E_isCallOf X hw (Nat.le_trans (Nat.le_of_ble_eq_true rfl) hRf) (Nat.le_trans (Nat.le_of_ble_eq_true rfl) hRl) rfl hl.1 (Nat.le_of_ble_eq_true rfl) rfl dX12_isBoolean_22 (fun v2 u H locs rv2 h hw => ?_)
        refine k_if_ne hx hb rv2 dX12_isBoolean_25 (tgt := 78) rfl h (fun h => ?_) (fun h => ?_)
        · refine lv_iconst hx hb dX12_isBoolean_78 (v := jI 1) rfl ?_
          refine lv_goto hx hb dX12_isBoolean_79 (tgt := 83) rfl ?_
          exact hret _ _ _ _ _ _ h.1 h.2 hw dX12_isBoolean_83
        · refine lv_aload_n hx hb dX12_isBoolean_28 rfl (lv_at hl 0 rfl) ?_
          refine lv_iload_n hx hb dX12_isBoolean_29 rfl (lv_at hl 1 rfl) ?_
          refine lv_bipush hx hb dX12_isBoolean_30 (v := jI 9) rfl ?_
          refine kcI (n := 2) (c_isCallOf ra0 (by decide) h) G_isCallOf E_isCallOf X hw (Nat.le_trans (Nat.le_of_ble_eq_true rfl) hRf) (Nat.le_trans (Nat.le_of_ble_eq_true rfl) hRl) rfl hl.1 (Nat.le_of_ble_eq_true rfl) rfl dX12_isBoolean_32 (fun v3 u H locs rv3 h hw => ?_)
          refine k_if_ne hx hb rv3 dX12_isBoolean_35 (tgt := 78) rfl h (fun h => ?_) (fun h => ?_)
          · refine lv_iconst hx hb dX12_isBoolean_78 (v := jI 1) rfl ?_
            refine lv_goto hx hb dX12_isBoolean_79 (tgt := 83) rfl ?_
            exact hret _ _ _ _ _ _ h.1 h.2 hw dX12_isBoolean_83
          · refine lv_aload_n hx hb dX12_isBoolean_38 rfl (lv_at hl 0 rfl) ?_
            refine lv_iload_n hx hb dX12_isBoolean_39 rfl (lv_at hl 1 rfl) ?_
            refine lv_bipush hx hb dX12_isBoolean_40 (v := jI 10) rfl ?_
            refine kcI (n := 2) (c_isCallOf ra0 (by decide) h) G_isCallOf E_isCallOf X hw (Nat.le_trans (Nat.le_of_ble_eq_true rfl) hRf) (Nat.le_trans (Nat.le_of_ble_eq_true rfl) hRl) rfl hl.1 (Nat.le_of_ble_eq_true rfl) rfl dX12_isBoolean_42 (fun v4 u H locs rv4 h hw => ?_)
            refine k_if_ne hx hb rv4 dX12_isBoolean_45 (tgt := 78) rfl h (fun h => ?_) (fun h => ?_)
            · refine lv_iconst hx hb dX12_isBoolean_78 (v := jI 1) rfl ?_
              refine lv_goto hx hb dX12_isBoolean_79 (tgt := 83) rfl ?_
              exact hret _ _ _ _ _ _ h.1 h.2 hw dX12_isBoolean_83
            · refine lv_aload_n hx hb dX12_isBoolean_48 rfl (lv_at hl 0 rfl) ?_
              refine lv_iload_n hx hb dX12_isBoolean_49 rfl (lv_at hl 1 rfl) ?_
              refine lv_bipush hx hb dX12_isBoolean_50 (v := jI 13) rfl ?_
              refine kcI (n := 2) (c_isCallOf ra0 (by decide) h) G_isCallOf E_isCallOf X hw (Nat.le_trans (Nat.le_of_ble_eq_true rfl) hRf) (Nat.le_trans (Nat.le_of_ble_eq_true rfl) hRl) rfl hl.1 (Nat.le_of_ble_eq_true rfl) rfl dX12_isBoolean_52 (fun v5 u H locs rv5 h hw => ?_)
              refine k_if_ne hx hb rv5 dX12_isBoolean_55 (tgt := 78) rfl h (fun h => ?_) (fun h => ?_)
              · refine lv_iconst hx hb dX12_isBoolean_78 (v := jI 1) rfl ?_
                refine lv_goto hx hb dX12_isBoolean_79 (tgt := 83) rfl ?_
                exact hret _ _ _ _ _ _ h.1 h.2 hw dX12_isBoolean_83
              · refine lv_aload_n hx hb dX12_isBoolean_58 rfl (lv_at hl 0 rfl) ?_
                refine lv_iload_n hx hb dX12_isBoolean_59 rfl (lv_at hl 1 rfl) ?_
                refine lv_bipush hx hb dX12_isBoolean_60 (v := jI 14) rfl ?_
                refine kcI (n := 2) (c_isCallOf ra0 (by decide) h) G_isCallOf E_isCallOf X hw (Nat.le_trans (Nat.le_of_ble_eq_true rfl) hRf) (Nat.le_trans (Nat.le_of_ble_eq_true rfl) hRl) rfl hl.1 (Nat.le_of_ble_eq_true rfl) rfl dX12_isBoolean_62 (fun v6 u H locs rv6 h hw => ?_)
                refine k_if_ne hx hb rv6 dX12_isBoolean_65 (tgt := 78) rfl h (fun h => ?_) (fun h => ?_)
                · refine lv_iconst hx hb dX12_isBoolean_78 (v := jI 1) rfl ?_
                  refine lv_goto hx hb dX12_isBoolean_79 (tgt := 83) rfl ?_
                  exact hret _ _ _ _ _ _ h.1 h.2 hw dX12_isBoolean_83
                · refine lv_aload_n hx hb dX12_isBoolean_68 rfl (lv_at hl 0 rfl) ?_
                  refine lv_iload_n hx hb dX12_isBoolean_69 rfl (lv_at hl 1 rfl) ?_
                  refine lv_bipush hx hb dX12_isBoolean_70 (v := jI 15) rfl ?_
                  refine kcI (n := 2) (c_isCallOf ra0 (by decide) h) G_isCallOf E_isCallOf X hw (Nat.le_trans (Nat.le_of_ble_eq_true rfl) hRf) (Nat.le_trans (Nat.le_of_ble_eq_true rfl) hRl) rfl hl.1 (Nat.le_of_ble_eq_true rfl) rfl dX12_isBoolean_72 (fun v7 u H locs rv7 h hw => ?_)
                  refine k_if_eq hx hb rv7 dX12_isBoolean_75 (tgt := 82) rfl h (fun h => ?_) (fun h => ?_)
                  · refine lv_iconst hx hb dX12_isBoolean_82 (v := jI 0) rfl ?_
                    exact hret _ _ _ _ _ _ h.1 h.2 hw dX12_isBoolean_83
                  · refine lv_iconst hx hb dX12_isBoolean_78 (v := jI 1) rfl ?_
                    refine lv_goto hx hb dX12_isBoolean_79 (tgt := 83) rfl ?_
                    exact hret _ _ _ _ _ _ h.1 h.2 hw dX12_isBoolean_83

end
theorem c_isBoolean {l : Launch} {a0 : Int} (ra0 : inR a0) {Q : Int → iST → Prop} {u : iST} (h : w_isBoolean a0 Q u) : kMI l yX12_isBoolean (.code yX12_isBoolean cX12_isBoolean 2 (some .boolean) :: wsM) { frames := 2, cells := 0, slots := 0, locals := 43 } [.int (jI a0)] Q u := kMZ_of rfl (fun _ => Nat.le_of_ble_eq_true rfl) (fun X hRf hRl hret hw hl => b_isBoolean_s X hRf hRl hret ra0 hw hl h)

/-! walkTo -/
theorem dX12_walkTo_0 : decode cX12_walkTo 0 = .ok (.aload_n 0, 1) := by decide +kernel
theorem dX12_walkTo_1 : decode cX12_walkTo 1 = .ok (.getfield 163, 3) := by decide +kernel
theorem dX12_walkTo_4 : decode cX12_walkTo 4 = .ok (.aload_n 0, 1) := by decide +kernel
theorem dX12_walkTo_5 : decode cX12_walkTo 5 = .ok (.getfield 549, 3) := by decide +kernel
theorem dX12_walkTo_8 : decode cX12_walkTo 8 = .ok (.iload_n 1, 1) := by decide +kernel
theorem dX12_walkTo_9 : decode cX12_walkTo 9 = .ok (.iastore, 1) := by decide +kernel
theorem dX12_walkTo_10 : decode cX12_walkTo 10 = .ok (.aload_n 0, 1) := by decide +kernel
theorem dX12_walkTo_11 : decode cX12_walkTo 11 = .ok (.dup, 1) := by decide +kernel
theorem dX12_walkTo_12 : decode cX12_walkTo 12 = .ok (.getfield 549, 3) := by decide +kernel
theorem dX12_walkTo_15 : decode cX12_walkTo 15 = .ok (.iconst 1, 1) := by decide +kernel
theorem dX12_walkTo_16 : decode cX12_walkTo 16 = .ok (.iadd, 1) := by decide +kernel
theorem dX12_walkTo_17 : decode cX12_walkTo 17 = .ok (.putfield 549, 3) := by decide +kernel
theorem dX12_walkTo_20 : decode cX12_walkTo 20 = .ok (.return_, 1) := by decide +kernel

section
variable {p : Program} {l : Launch} {e : Env} {R : Room} {s : State} {m : MethodId} {args : Array Value} {below : List Frame} {meth : Method} {c : Code} {H : Heap} {locs : List Loc} {Qf : State → Prop}
variable {ls : Array Slot} {D : va_G} {ca : Nat → ClassId} {A : Nat → Prop} {h0 : Nat} {ad : Nat → Nat} {H0 : Heap} {u : iST}
def w_walkTo (a0 : Int) (Q : iST → Prop) (u : iST) : Prop :=
  rd (u.1 76) (fun v1 => 
  bd v1 400 (sw (iA u 75 v1 a0) (fun u => 
  rd (u.1 76) (fun v2 => 
  ov (v2 + 1) (
  sw (iI u 76 (v2 + 1)) (fun u => 
  Q u))))))
set_option maxRecDepth 20000 in
set_option maxHeartbeats 4000000 in
theorem b_walkTo_s (X : kX p m c cX12_walkTo 2 s args D ca) (hRf : 0 ≤ R.frames) (hRl : 0 ≤ R.locals) {Q : iST → Prop} (hret : ∀ (u : iST) (H : Heap) (locs : List Loc) (ls : Array Slot) (pc : Nat), Q u → kW D ca A h0 ad H0 H locs u → decode cX12_walkTo pc = .ok (.return_, 1) → W p l e R s m args below meth c H locs 0 0 Qf (F0 m pc ls [])) {a0 : Int} (ra0 : inR a0) (hw : kW D ca A h0 ad H0 H locs u) (hl : lv_has ls 2 [(0, .ref h0), (1, .int (jI a0))]) (h : w_walkTo a0 Q u) : W p l e R s m args below meth c H locs 0 0 Qf (F0 m 0 ls []) := by
  have hx := X.1.1
  have hb := X.1.2.1
  unfold w_walkTo at h
  refine lv_aload_n hx hb dX12_walkTo_0 rfl (lv_at hl 0 rfl) ?_
  refine gA 75 163 (by decide) L_75 (fun _ _ => mF_75) rfl X hw dX12_walkTo_1 ?_
  refine lv_aload_n hx hb dX12_walkTo_4 rfl (lv_at hl 0 rfl) ?_
  refine gS 76 549 (by decide) L_76 (fun _ _ => mF_76) rfl X hw dX12_walkTo_5 h (fun v1 rv1 h => ?_)
  refine lv_iload_n hx hb dX12_walkTo_8 rfl (lv_at hl 1 rfl) ?_
  refine aS 75 47 46 400 (fun _ _ _ _ => mG_75) (fun _ => rfl) (fun _ _ _ _ _ _ => mSA_75) (by decide) X hw rv1 ra0 dX12_walkTo_9 rfl h (fun H locs u hw h => ?_)
  refine lv_aload_n hx hb dX12_walkTo_10 rfl (lv_at hl 0 rfl) ?_
  refine lv_dup hx hb dX12_walkTo_11 rfl ?_
  refine gS 76 549 (by decide) L_76 (fun _ _ => mF_76) rfl X hw dX12_walkTo_12 h (fun v2 rv2 h => ?_)
  refine lv_iconst hx hb dX12_walkTo_15 (v := jI 1) rfl ?_
  refine k_iadd hx hb dX12_walkTo_16 h (fun r3 h => ?_)
  refine pS 76 549 (by decide) L_76 rfl rfl rfl (fun _ _ _ _ _ => mSI_76) (by decide) X hw r3 dX12_walkTo_17 h (fun H locs u hw h => ?_)
  exact hret _ _ _ _ _ h hw dX12_walkTo_20

end
theorem c_walkTo {l : Launch} {a0 : Int} (ra0 : inR a0) {Q : iST → Prop} {u : iST} (h : w_walkTo a0 Q u) : kMV l yX12_walkTo (.code yX12_walkTo cX12_walkTo 2 none :: wsM) { frames := 0, cells := 0, slots := 0, locals := 0 } [.int (jI a0)] Q u := kMV_of rfl (fun _ => Nat.le_of_ble_eq_true rfl) (fun X hRf hRl hret hw hl => b_walkTo_s X hRf hRl hret ra0 hw hl h)

/-! walkOn -/
theorem dX12_walkOn_0 : decode cX12_walkOn 0 = .ok (.aload_n 0, 1) := by decide +kernel
theorem dX12_walkOn_1 : decode cX12_walkOn 1 = .ok (.dup, 1) := by decide +kernel
theorem dX12_walkOn_2 : decode cX12_walkOn 2 = .ok (.getfield 549, 3) := by decide +kernel
theorem dX12_walkOn_5 : decode cX12_walkOn 5 = .ok (.iconst 1, 1) := by decide +kernel
theorem dX12_walkOn_6 : decode cX12_walkOn 6 = .ok (.isub, 1) := by decide +kernel
theorem dX12_walkOn_7 : decode cX12_walkOn 7 = .ok (.putfield 549, 3) := by decide +kernel
theorem dX12_walkOn_10 : decode cX12_walkOn 10 = .ok (.aload_n 0, 1) := by decide +kernel
theorem dX12_walkOn_11 : decode cX12_walkOn 11 = .ok (.getfield 163, 3) := by decide +kernel
theorem dX12_walkOn_14 : decode cX12_walkOn 14 = .ok (.aload_n 0, 1) := by decide +kernel
theorem dX12_walkOn_15 : decode cX12_walkOn 15 = .ok (.getfield 549, 3) := by decide +kernel
theorem dX12_walkOn_18 : decode cX12_walkOn 18 = .ok (.iaload, 1) := by decide +kernel
theorem dX12_walkOn_19 : decode cX12_walkOn 19 = .ok (.istore_n 1, 1) := by decide +kernel
theorem dX12_walkOn_20 : decode cX12_walkOn 20 = .ok (.aload_n 0, 1) := by decide +kernel
theorem dX12_walkOn_21 : decode cX12_walkOn 21 = .ok (.iload_n 1, 1) := by decide +kernel
theorem dX12_walkOn_22 : decode cX12_walkOn 22 = .ok (.invokevirtual 483, 3) := by decide +kernel
theorem dX12_walkOn_25 : decode cX12_walkOn 25 = .ok (.ifCond .ne 5, 3) := by decide +kernel
theorem dX12_walkOn_28 : decode cX12_walkOn 28 = .ok (.iload_n 1, 1) := by decide +kernel
theorem dX12_walkOn_29 : decode cX12_walkOn 29 = .ok (.ireturn, 1) := by decide +kernel
theorem dX12_walkOn_30 : decode cX12_walkOn 30 = .ok (.aload_n 0, 1) := by decide +kernel
theorem dX12_walkOn_31 : decode cX12_walkOn 31 = .ok (.aload_n 0, 1) := by decide +kernel
theorem dX12_walkOn_32 : decode cX12_walkOn 32 = .ok (.getfield 14, 3) := by decide +kernel
theorem dX12_walkOn_35 : decode cX12_walkOn 35 = .ok (.iload_n 1, 1) := by decide +kernel
theorem dX12_walkOn_36 : decode cX12_walkOn 36 = .ok (.iaload, 1) := by decide +kernel
theorem dX12_walkOn_37 : decode cX12_walkOn 37 = .ok (.invokevirtual 529, 3) := by decide +kernel
theorem dX12_walkOn_40 : decode cX12_walkOn 40 = .ok (.istore_n 2, 1) := by decide +kernel
theorem dX12_walkOn_41 : decode cX12_walkOn 41 = .ok (.iload_n 2, 1) := by decide +kernel
theorem dX12_walkOn_42 : decode cX12_walkOn 42 = .ok (.istore_n 3, 1) := by decide +kernel
theorem dX12_walkOn_43 : decode cX12_walkOn 43 = .ok (.iload_n 3, 1) := by decide +kernel
theorem dX12_walkOn_44 : decode cX12_walkOn 44 = .ok (.iconst 1, 1) := by decide +kernel
theorem dX12_walkOn_45 : decode cX12_walkOn 45 = .ok (.if_icmp .lt 19, 3) := by decide +kernel
theorem dX12_walkOn_48 : decode cX12_walkOn 48 = .ok (.aload_n 0, 1) := by decide +kernel
theorem dX12_walkOn_49 : decode cX12_walkOn 49 = .ok (.aload_n 0, 1) := by decide +kernel
theorem dX12_walkOn_50 : decode cX12_walkOn 50 = .ok (.iload_n 1, 1) := by decide +kernel
theorem dX12_walkOn_51 : decode cX12_walkOn 51 = .ok (.iload_n 3, 1) := by decide +kernel
theorem dX12_walkOn_52 : decode cX12_walkOn 52 = .ok (.invokevirtual 471, 3) := by decide +kernel
theorem dX12_walkOn_55 : decode cX12_walkOn 55 = .ok (.invokevirtual 552, 3) := by decide +kernel
theorem dX12_walkOn_58 : decode cX12_walkOn 58 = .ok (.iinc 3 (-1), 3) := by decide +kernel
theorem dX12_walkOn_61 : decode cX12_walkOn 61 = .ok (.goto (-18), 3) := by decide +kernel
theorem dX12_walkOn_64 : decode cX12_walkOn 64 = .ok (.iload_n 1, 1) := by decide +kernel
theorem dX12_walkOn_65 : decode cX12_walkOn 65 = .ok (.ireturn, 1) := by decide +kernel

section
variable {p : Program} {l : Launch} {e : Env} {R : Room} {s : State} {m : MethodId} {args : Array Value} {below : List Frame} {meth : Method} {c : Code} {H : Heap} {locs : List Loc} {Qf : State → Prop}
variable {ls : Array Slot} {D : va_G} {ca : Nat → ClassId} {A : Nat → Prop} {h0 : Nat} {ad : Nat → Nat} {H0 : Heap} {u : iST}
def w_walkOn_43b (R43 : Int → Int → iST → Prop) (Q : Int → iST → Prop) (x1 : Int) (x3 : Int) (u : iST) : Prop :=
  br (x3 < 1) (
    Q x1 u) (
    w_nth x1 x3 (fun v8 u => 
    w_walkTo v8 (fun u => 
    ov (x3 + (-1)) (
    R43 x1 (x3 + (-1)) u)) u) u)
def w_walkOn_43 (Q : Int → iST → Prop) (x1 : Int) (x3 : Int) (u : iST) : Prop := ∀ R43 : Int → Int → iST → Prop, (∀ (x1 : Int) (x3 : Int) (u : iST), w_walkOn_43b R43 Q x1 x3 u → R43 x1 x3 u) → R43 x1 x3 u
set_option maxRecDepth 20000 in
set_option maxHeartbeats 4000000 in
theorem b_walkOn_43 (X : kX p m c cX12_walkOn 4 s args D ca) (hRf : 2 ≤ R.frames) (hRl : 44 ≤ R.locals) {Q : Int → iST → Prop} (hret : ∀ (v : Int) (u : iST) (H : Heap) (locs : List Loc) (ls : Array Slot) (pc : Nat), inR v → Q v u → kW D ca A h0 ad H0 H locs u → decode cX12_walkOn pc = .ok (.ireturn, 1) → W p l e R s m args below meth c H locs 0 0 Qf (F0 m pc ls [.int (jI v)])) {x1 x3 : Int} (rx1 : inR x1) (rx3 : inR x3) (hw : kW D ca A h0 ad H0 H locs u) (hl : lv_has ls 4 [(0, .ref h0), (1, .int (jI x1)), (3, .int (jI x3))]) (h : w_walkOn_43 Q x1 x3 u) : W p l e R s m args below meth c H locs 0 0 Qf (F0 m 43 ls []) := by
  refine h (fun x1 x3 u => ∀ (H : Heap) (locs : List Loc) (ls : Array Slot), inR x1 → inR x3 → kW D ca A h0 ad H0 H locs u → lv_has ls 4 [(0, .ref h0), (1, .int (jI x1)), (3, .int (jI x3))] → W p l e R s m args below meth c H locs 0 0 Qf (F0 m 43 ls [])) ?_ H locs ls rx1 rx3 hw hl
  clear h hl hw rx1 rx3
  intro x1 x3 u h H locs ls rx1 rx3 hw hl
  have hR43 : ∀ (x1 : Int) (x3 : Int) (u : iST) (H : Heap) (locs : List Loc) (ls : Array Slot), inR x1 → inR x3 → kW D ca A h0 ad H0 H locs u → lv_has ls 4 [(0, .ref h0), (1, .int (jI x1)), (3, .int (jI x3))] → (fun (x1 : Int) (x3 : Int) u => ∀ (H : Heap) (locs : List Loc) (ls : Array Slot), inR x1 → inR x3 → kW D ca A h0 ad H0 H locs u → lv_has ls 4 [(0, .ref h0), (1, .int (jI x1)), (3, .int (jI x3))] → W p l e R s m args below meth c H locs 0 0 Qf (F0 m 43 ls [])) x1 x3 u → W p l e R s m args below meth c H locs 0 0 Qf (F0 m 43 ls []) := fun x1 x3 u H locs ls rx1 rx3 hw hl h => h H locs ls rx1 rx3 hw hl
  have hx := X.1.1
  have hb := X.1.2.1
  unfold w_walkOn_43b at h
  refine lv_iload_n hx hb dX12_walkOn_43 rfl (lv_at hl 2 rfl) ?_
  refine lv_iconst hx hb dX12_walkOn_44 (v := jI 1) rfl ?_
  refine k_icmp_lt hx hb rx3 (by decide) dX12_walkOn_45 (tgt := 64) rfl h (fun h => ?_) (fun h => ?_)
  · refine lv_iload_n hx hb dX12_walkOn_64 rfl (lv_at hl 1 rfl) ?_
    exact hret _ _ _ _ _ _ rx1 h hw dX12_walkOn_65
  · refine lv_aload_n hx hb dX12_walkOn_48 rfl (lv_at hl 0 rfl) ?_
    refine lv_aload_n hx hb dX12_walkOn_49 rfl (lv_at hl 0 rfl) ?_
    refine lv_iload_n hx hb dX12_walkOn_50 rfl (lv_at hl 1 rfl) ?_
    refine lv_iload_n hx hb dX12_walkOn_51 rfl (lv_at hl 2 rfl) ?_
    refine kcI (n := 2) (c_nth rx1 rx3 h) G_nth E_nth X hw (Nat.le_trans (Nat.le_of_ble_eq_true rfl) hRf) (Nat.le_trans (Nat.le_of_ble_eq_true rfl) hRl) rfl hl.1 (Nat.le_of_ble_eq_true rfl) rfl dX12_walkOn_52 (fun v8 u H locs rv8 h hw => ?_)
    refine kcV (n := 1) (c_walkTo rv8 h) G_walkTo E_walkTo X hw (Nat.le_trans (Nat.le_of_ble_eq_true rfl) hRf) (Nat.le_trans (Nat.le_of_ble_eq_true rfl) hRl) rfl hl.1 (Nat.le_of_ble_eq_true rfl) rfl dX12_walkOn_55 (fun u H locs h hw => ?_)
    refine k_iinc (k := 2) hx hb dX12_walkOn_58 hl rfl (by decide) rfl h (fun ls r10 h hl => ?_)
    have hl : lv_has ls 4 [(3, .int (jI (x3 + (-1)))), (0, .ref (h0)), (1, .int (jI x1))] := hl
    refine lv_goto hx hb dX12_walkOn_61 (tgt := 43) rfl ?_
    exact hR43 _ _ _ H locs ls rx1 r10 hw (lv_sub hl [1, 2, 0] rfl) h

def w_walkOn (Q : Int → iST → Prop) (u : iST) : Prop :=
  rd (u.1 76) (fun v1 => 
  ov (v1 - 1) (
  sw (iI u 76 (v1 - 1)) (fun u => 
  rd (u.1 76) (fun v3 => 
  bd v3 400 (rd (u.2.1 75 v3) (fun v4 => 
  w_isCall v4 (fun v5 u => 
  br (v5 ≠ 0) (
    bd v4 452000 (rd (u.2.1 1 v4) (fun v6 => 
    w_lengthOf v6 (fun v7 u => 
    w_walkOn_43 Q v4 v7 u) u))) (
    Q v4 u)) u))))))
set_option maxRecDepth 20000 in
set_option maxHeartbeats 4000000 in
theorem b_walkOn_s (X : kX p m c cX12_walkOn 4 s args D ca) (hRf : 2 ≤ R.frames) (hRl : 44 ≤ R.locals) {Q : Int → iST → Prop} (hret : ∀ (v : Int) (u : iST) (H : Heap) (locs : List Loc) (ls : Array Slot) (pc : Nat), inR v → Q v u → kW D ca A h0 ad H0 H locs u → decode cX12_walkOn pc = .ok (.ireturn, 1) → W p l e R s m args below meth c H locs 0 0 Qf (F0 m pc ls [.int (jI v)])) (hw : kW D ca A h0 ad H0 H locs u) (hl : lv_has ls 4 [(0, .ref h0)]) (h : w_walkOn Q u) : W p l e R s m args below meth c H locs 0 0 Qf (F0 m 0 ls []) := by
  have hx := X.1.1
  have hb := X.1.2.1
  unfold w_walkOn at h
  refine lv_aload_n hx hb dX12_walkOn_0 rfl (lv_at hl 0 rfl) ?_
  refine lv_dup hx hb dX12_walkOn_1 rfl ?_
  refine gS 76 549 (by decide) L_76 (fun _ _ => mF_76) rfl X hw dX12_walkOn_2 h (fun v1 rv1 h => ?_)
  refine lv_iconst hx hb dX12_walkOn_5 (v := jI 1) rfl ?_
  refine k_isub hx hb dX12_walkOn_6 h (fun r2 h => ?_)
  refine pS 76 549 (by decide) L_76 rfl rfl rfl (fun _ _ _ _ _ => mSI_76) (by decide) X hw r2 dX12_walkOn_7 h (fun H locs u hw h => ?_)
  refine lv_aload_n hx hb dX12_walkOn_10 rfl (lv_at hl 0 rfl) ?_
  refine gA 75 163 (by decide) L_75 (fun _ _ => mF_75) rfl X hw dX12_walkOn_11 ?_
  refine lv_aload_n hx hb dX12_walkOn_14 rfl (lv_at hl 0 rfl) ?_
  refine gS 76 549 (by decide) L_76 (fun _ _ => mF_76) rfl X hw dX12_walkOn_15 h (fun v3 rv3 h => ?_)
  refine aL 75 47 46 400 (fun _ _ _ _ => mG_75) (fun _ => rfl) X hw rv3 dX12_walkOn_18 rfl h (fun v4 rv4 h => ?_)
  refine lv_istore_n hx hb dX12_walkOn_19 rfl hl (by decide) rfl (fun ls hl => ?_)
  have hl : lv_has ls 4 [(1, .int (jI v4)), (0, .ref (h0))] := hl
  refine lv_aload_n hx hb dX12_walkOn_20 rfl (lv_at hl 1 rfl) ?_
  refine lv_iload_n hx hb dX12_walkOn_21 rfl (lv_at hl 0 rfl) ?_
  refine kcI (n := 1) (c_isCall rv4 h) G_isCall E_isCall X hw (Nat.le_trans (Nat.le_of_ble_eq_true rfl) hRf) (Nat.le_trans (Nat.le_of_ble_eq_true rfl) hRl) rfl hl.1 (Nat.le_of_ble_eq_true rfl) rfl dX12_walkOn_22 (fun v5 u H locs rv5 h hw => ?_)
  refine k_if_ne hx hb rv5 dX12_walkOn_25 (tgt := 30) rfl h (fun h => ?_) (fun h => ?_)
  · refine lv_aload_n hx hb dX12_walkOn_30 rfl (lv_at hl 1 rfl) ?_
    refine lv_aload_n hx hb dX12_walkOn_31 rfl (lv_at hl 1 rfl) ?_
    refine gA 1 14 (by decide) L_1 (fun _ _ => mF_1) rfl X hw dX12_walkOn_32 ?_
    refine lv_iload_n hx hb dX12_walkOn_35 rfl (lv_at hl 0 rfl) ?_
    refine aL 1 2 1 452000 (fun _ _ _ _ => mG_1) (fun _ => rfl) X hw rv4 dX12_walkOn_36 rfl h (fun v6 rv6 h => ?_)
    refine kcI (n := 1) (c_lengthOf rv6 h) G_lengthOf E_lengthOf X hw (Nat.le_trans (Nat.le_of_ble_eq_true rfl) hRf) (Nat.le_trans (Nat.le_of_ble_eq_true rfl) hRl) rfl hl.1 (Nat.le_of_ble_eq_true rfl) rfl dX12_walkOn_37 (fun v7 u H locs rv7 h hw => ?_)
    refine lv_istore_n hx hb dX12_walkOn_40 rfl hl (by decide) rfl (fun ls hl => ?_)
    have hl : lv_has ls 4 [(2, .int (jI v7)), (1, .int (jI v4)), (0, .ref (h0))] := hl
    refine lv_iload_n hx hb dX12_walkOn_41 rfl (lv_at hl 0 rfl) ?_
    refine lv_istore_n hx hb dX12_walkOn_42 rfl hl (by decide) rfl (fun ls hl => ?_)
    have hl : lv_has ls 4 [(3, .int (jI v7)), (2, .int (jI v7)), (1, .int (jI v4)), (0, .ref (h0))] := hl
    exact b_walkOn_43 X hRf hRl hret rv4 rv7 hw (lv_sub hl [3, 2, 0] rfl) h
  · refine lv_iload_n hx hb dX12_walkOn_28 rfl (lv_at hl 0 rfl) ?_
    exact hret _ _ _ _ _ _ rv4 h hw dX12_walkOn_29

end
theorem c_walkOn {l : Launch} {Q : Int → iST → Prop} {u : iST} (h : w_walkOn Q u) : kMI l yX12_walkOn (.code yX12_walkOn cX12_walkOn 4 (some .int) :: wsM) { frames := 2, cells := 0, slots := 0, locals := 44 } [] Q u := kMI_of rfl (fun _ => Nat.le_of_ble_eq_true rfl) (fun X hRf hRl hret hw hl => b_walkOn_s X hRf hRl hret hw hl h)

/-! hasCall -/
theorem dX12_hasCall_0 : decode cX12_hasCall 0 = .ok (.aload_n 0, 1) := by decide +kernel
theorem dX12_hasCall_1 : decode cX12_hasCall 1 = .ok (.iconst 0, 1) := by decide +kernel
theorem dX12_hasCall_2 : decode cX12_hasCall 2 = .ok (.putfield 549, 3) := by decide +kernel
theorem dX12_hasCall_5 : decode cX12_hasCall 5 = .ok (.aload_n 0, 1) := by decide +kernel
theorem dX12_hasCall_6 : decode cX12_hasCall 6 = .ok (.iload_n 1, 1) := by decide +kernel
theorem dX12_hasCall_7 : decode cX12_hasCall 7 = .ok (.invokevirtual 552, 3) := by decide +kernel
theorem dX12_hasCall_10 : decode cX12_hasCall 10 = .ok (.aload_n 0, 1) := by decide +kernel
theorem dX12_hasCall_11 : decode cX12_hasCall 11 = .ok (.getfield 549, 3) := by decide +kernel
theorem dX12_hasCall_14 : decode cX12_hasCall 14 = .ok (.ifCond .le 22, 3) := by decide +kernel
theorem dX12_hasCall_17 : decode cX12_hasCall 17 = .ok (.aload_n 0, 1) := by decide +kernel
theorem dX12_hasCall_18 : decode cX12_hasCall 18 = .ok (.invokevirtual 555, 3) := by decide +kernel
theorem dX12_hasCall_21 : decode cX12_hasCall 21 = .ok (.istore_n 3, 1) := by decide +kernel
theorem dX12_hasCall_22 : decode cX12_hasCall 22 = .ok (.aload_n 0, 1) := by decide +kernel
theorem dX12_hasCall_23 : decode cX12_hasCall 23 = .ok (.iload_n 3, 1) := by decide +kernel
theorem dX12_hasCall_24 : decode cX12_hasCall 24 = .ok (.iload_n 2, 1) := by decide +kernel
theorem dX12_hasCall_25 : decode cX12_hasCall 25 = .ok (.invokevirtual 542, 3) := by decide +kernel
theorem dX12_hasCall_28 : decode cX12_hasCall 28 = .ok (.ifCond .eq 5, 3) := by decide +kernel
theorem dX12_hasCall_31 : decode cX12_hasCall 31 = .ok (.iconst 1, 1) := by decide +kernel
theorem dX12_hasCall_32 : decode cX12_hasCall 32 = .ok (.ireturn, 1) := by decide +kernel
theorem dX12_hasCall_33 : decode cX12_hasCall 33 = .ok (.goto (-23), 3) := by decide +kernel
theorem dX12_hasCall_36 : decode cX12_hasCall 36 = .ok (.iconst 0, 1) := by decide +kernel
theorem dX12_hasCall_37 : decode cX12_hasCall 37 = .ok (.ireturn, 1) := by decide +kernel

section
variable {p : Program} {l : Launch} {e : Env} {R : Room} {s : State} {m : MethodId} {args : Array Value} {below : List Frame} {meth : Method} {c : Code} {H : Heap} {locs : List Loc} {Qf : State → Prop}
variable {ls : Array Slot} {D : va_G} {ca : Nat → ClassId} {A : Nat → Prop} {h0 : Nat} {ad : Nat → Nat} {H0 : Heap} {u : iST}
def w_hasCall_10b (R10 : Int → iST → Prop) (Q : Int → iST → Prop) (x2 : Int) (u : iST) : Prop :=
  rd (u.1 76) (fun v2 => 
  br (v2 ≤ 0) (
    zt 0 (Q 0 u)) (
    w_walkOn (fun v3 u => 
    w_isCallOf v3 x2 (fun v4 u => 
    br (v4 = 0) (
      R10 x2 u) (
      zt 1 (Q 1 u))) u) u))
def w_hasCall_10 (Q : Int → iST → Prop) (x2 : Int) (u : iST) : Prop := ∀ R10 : Int → iST → Prop, (∀ (x2 : Int) (u : iST), w_hasCall_10b R10 Q x2 u → R10 x2 u) → R10 x2 u
set_option maxRecDepth 20000 in
set_option maxHeartbeats 4000000 in
theorem b_hasCall_10 (X : kX p m c cX12_hasCall 4 s args D ca) (hRf : 3 ≤ R.frames) (hRl : 67 ≤ R.locals) {Q : Int → iST → Prop} (hret : ∀ (v : Int) (u : iST) (H : Heap) (locs : List Loc) (ls : Array Slot) (pc : Nat), bz v → Q v u → kW D ca A h0 ad H0 H locs u → decode cX12_hasCall pc = .ok (.ireturn, 1) → W p l e R s m args below meth c H locs 0 0 Qf (F0 m pc ls [.int (jI v)])) {x2 : Int} (rx2 : inR x2) (hw : kW D ca A h0 ad H0 H locs u) (hl : lv_has ls 4 [(0, .ref h0), (2, .int (jI x2))]) (h : w_hasCall_10 Q x2 u) : W p l e R s m args below meth c H locs 0 0 Qf (F0 m 10 ls []) := by
  refine h (fun x2 u => ∀ (H : Heap) (locs : List Loc) (ls : Array Slot), inR x2 → kW D ca A h0 ad H0 H locs u → lv_has ls 4 [(0, .ref h0), (2, .int (jI x2))] → W p l e R s m args below meth c H locs 0 0 Qf (F0 m 10 ls [])) ?_ H locs ls rx2 hw hl
  clear h hl hw rx2
  intro x2 u h H locs ls rx2 hw hl
  have hR10 : ∀ (x2 : Int) (u : iST) (H : Heap) (locs : List Loc) (ls : Array Slot), inR x2 → kW D ca A h0 ad H0 H locs u → lv_has ls 4 [(0, .ref h0), (2, .int (jI x2))] → (fun (x2 : Int) u => ∀ (H : Heap) (locs : List Loc) (ls : Array Slot), inR x2 → kW D ca A h0 ad H0 H locs u → lv_has ls 4 [(0, .ref h0), (2, .int (jI x2))] → W p l e R s m args below meth c H locs 0 0 Qf (F0 m 10 ls [])) x2 u → W p l e R s m args below meth c H locs 0 0 Qf (F0 m 10 ls []) := fun x2 u H locs ls rx2 hw hl h => h H locs ls rx2 hw hl
  have hx := X.1.1
  have hb := X.1.2.1
  unfold w_hasCall_10b at h
  refine lv_aload_n hx hb dX12_hasCall_10 rfl (lv_at hl 0 rfl) ?_
  refine gS 76 549 (by decide) L_76 (fun _ _ => mF_76) rfl X hw dX12_hasCall_11 h (fun v2 rv2 h => ?_)
  refine k_if_le hx hb rv2 dX12_hasCall_14 (tgt := 36) rfl h (fun h => ?_) (fun h => ?_)
  · refine lv_iconst hx hb dX12_hasCall_36 (v := jI 0) rfl ?_
    exact hret _ _ _ _ _ _ h.1 h.2 hw dX12_hasCall_37
  · refine lv_aload_n hx hb dX12_hasCall_17 rfl (lv_at hl 0 rfl) ?_
    refine kcI (n := 0) (c_walkOn h) G_walkOn E_walkOn X hw (Nat.le_trans (Nat.le_of_ble_eq_true rfl) hRf) (Nat.le_trans (Nat.le_of_ble_eq_true rfl) hRl) rfl hl.1 (Nat.le_of_ble_eq_true rfl) rfl dX12_hasCall_18 (fun v3 u H locs rv3 h hw => ?_)
    refine lv_istore_n hx hb dX12_hasCall_21 rfl hl (by decide) rfl (fun ls hl => ?_)
    have hl : lv_has ls 4 [(3, .int (jI v3)), (0, .ref (h0)), (2, .int (jI x2))] := hl
    refine lv_aload_n hx hb dX12_hasCall_22 rfl (lv_at hl 1 rfl) ?_
    refine lv_iload_n hx hb dX12_hasCall_23 rfl (lv_at hl 0 rfl) ?_
    refine lv_iload_n hx hb dX12_hasCall_24 rfl (lv_at hl 2 rfl) ?_
    refine kcI (n := 2) (c_isCallOf rv3 rx2 h) G_isCallOf E_isCallOf X hw (Nat.le_trans (Nat.le_of_ble_eq_true rfl) hRf) (Nat.le_trans (Nat.le_of_ble_eq_true rfl) hRl) rfl hl.1 (Nat.le_of_ble_eq_true rfl) rfl dX12_hasCall_25 (fun v4 u H locs rv4 h hw => ?_)
    refine k_if_eq hx hb rv4 dX12_hasCall_28 (tgt := 33) rfl h (fun h => ?_) (fun h => ?_)
    · refine lv_goto hx hb dX12_hasCall_33 (tgt := 10) rfl ?_
      exact hR10 _ _ H locs ls rx2 hw (lv_sub hl [1, 2] rfl) h
    · refine lv_iconst hx hb dX12_hasCall_31 (v := jI 1) rfl ?_
      exact hret _ _ _ _ _ _ h.1 h.2 hw dX12_hasCall_32

def w_hasCall (a0 : Int) (a1 : Int) (Q : Int → iST → Prop) (u : iST) : Prop :=
  sw (iI u 76 0) (fun u => 
  w_walkTo a0 (fun u => 
  w_hasCall_10 Q a1 u) u)
set_option maxRecDepth 20000 in
set_option maxHeartbeats 4000000 in
theorem b_hasCall_s (X : kX p m c cX12_hasCall 4 s args D ca) (hRf : 3 ≤ R.frames) (hRl : 67 ≤ R.locals) {Q : Int → iST → Prop} (hret : ∀ (v : Int) (u : iST) (H : Heap) (locs : List Loc) (ls : Array Slot) (pc : Nat), bz v → Q v u → kW D ca A h0 ad H0 H locs u → decode cX12_hasCall pc = .ok (.ireturn, 1) → W p l e R s m args below meth c H locs 0 0 Qf (F0 m pc ls [.int (jI v)])) {a0 a1 : Int} (ra0 : inR a0) (ra1 : inR a1) (hw : kW D ca A h0 ad H0 H locs u) (hl : lv_has ls 4 [(0, .ref h0), (1, .int (jI a0)), (2, .int (jI a1))]) (h : w_hasCall a0 a1 Q u) : W p l e R s m args below meth c H locs 0 0 Qf (F0 m 0 ls []) := by
  have hx := X.1.1
  have hb := X.1.2.1
  unfold w_hasCall at h
  refine lv_aload_n hx hb dX12_hasCall_0 rfl (lv_at hl 0 rfl) ?_
  refine lv_iconst hx hb dX12_hasCall_1 (v := jI 0) rfl ?_
  refine pS 76 549 (by decide) L_76 rfl rfl rfl (fun _ _ _ _ _ => mSI_76) (by decide) X hw (by decide) dX12_hasCall_2 h (fun H locs u hw h => ?_)
  refine lv_aload_n hx hb dX12_hasCall_5 rfl (lv_at hl 0 rfl) ?_
  refine lv_iload_n hx hb dX12_hasCall_6 rfl (lv_at hl 1 rfl) ?_
  refine kcV (n := 1) (c_walkTo ra0 h) G_walkTo E_walkTo X hw (Nat.le_trans (Nat.le_of_ble_eq_true rfl) hRf) (Nat.le_trans (Nat.le_of_ble_eq_true rfl) hRl) rfl hl.1 (Nat.le_of_ble_eq_true rfl) rfl dX12_hasCall_7 (fun u H locs h hw => ?_)
  exact b_hasCall_10 X hRf hRl hret ra1 hw (lv_sub hl [0, 2] rfl) h

end
theorem c_hasCall {l : Launch} {a0 : Int} {a1 : Int} (ra0 : inR a0) (ra1 : inR a1) {Q : Int → iST → Prop} {u : iST} (h : w_hasCall a0 a1 Q u) : kMI l yX12_hasCall (.code yX12_hasCall cX12_hasCall 4 (some .boolean) :: wsM) { frames := 3, cells := 0, slots := 0, locals := 67 } [.int (jI a0), .int (jI a1)] Q u := kMZ_of rfl (fun _ => Nat.le_of_ble_eq_true rfl) (fun X hRf hRl hret hw hl => b_hasCall_s X hRf hRl hret ra0 ra1 hw hl h)

/-! hasVariable -/
theorem dX12_hasVariable_0 : decode cX12_hasVariable 0 = .ok (.aload_n 0, 1) := by decide +kernel
theorem dX12_hasVariable_1 : decode cX12_hasVariable 1 = .ok (.iconst 0, 1) := by decide +kernel
theorem dX12_hasVariable_2 : decode cX12_hasVariable 2 = .ok (.putfield 549, 3) := by decide +kernel
theorem dX12_hasVariable_5 : decode cX12_hasVariable 5 = .ok (.aload_n 0, 1) := by decide +kernel
theorem dX12_hasVariable_6 : decode cX12_hasVariable 6 = .ok (.iload_n 1, 1) := by decide +kernel
theorem dX12_hasVariable_7 : decode cX12_hasVariable 7 = .ok (.invokevirtual 552, 3) := by decide +kernel
theorem dX12_hasVariable_10 : decode cX12_hasVariable 10 = .ok (.aload_n 0, 1) := by decide +kernel
theorem dX12_hasVariable_11 : decode cX12_hasVariable 11 = .ok (.getfield 549, 3) := by decide +kernel
theorem dX12_hasVariable_14 : decode cX12_hasVariable 14 = .ok (.ifCond .le 13, 3) := by decide +kernel
theorem dX12_hasVariable_17 : decode cX12_hasVariable 17 = .ok (.aload_n 0, 1) := by decide +kernel
theorem dX12_hasVariable_18 : decode cX12_hasVariable 18 = .ok (.invokevirtual 555, 3) := by decide +kernel
theorem dX12_hasVariable_21 : decode cX12_hasVariable 21 = .ok (.iload_n 2, 1) := by decide +kernel
theorem dX12_hasVariable_22 : decode cX12_hasVariable 22 = .ok (.if_icmp .ne (-12), 3) := by decide +kernel
theorem dX12_hasVariable_25 : decode cX12_hasVariable 25 = .ok (.iconst 1, 1) := by decide +kernel
theorem dX12_hasVariable_26 : decode cX12_hasVariable 26 = .ok (.ireturn, 1) := by decide +kernel
theorem dX12_hasVariable_27 : decode cX12_hasVariable 27 = .ok (.iconst 0, 1) := by decide +kernel
theorem dX12_hasVariable_28 : decode cX12_hasVariable 28 = .ok (.ireturn, 1) := by decide +kernel

section
variable {p : Program} {l : Launch} {e : Env} {R : Room} {s : State} {m : MethodId} {args : Array Value} {below : List Frame} {meth : Method} {c : Code} {H : Heap} {locs : List Loc} {Qf : State → Prop}
variable {ls : Array Slot} {D : va_G} {ca : Nat → ClassId} {A : Nat → Prop} {h0 : Nat} {ad : Nat → Nat} {H0 : Heap} {u : iST}
def w_hasVariable_10b (R10 : Int → iST → Prop) (Q : Int → iST → Prop) (x2 : Int) (u : iST) : Prop :=
  rd (u.1 76) (fun v2 => 
  br (v2 ≤ 0) (
    zt 0 (Q 0 u)) (
    w_walkOn (fun v3 u => 
    br (v3 ≠ x2) (
      R10 x2 u) (
      zt 1 (Q 1 u))) u))
def w_hasVariable_10 (Q : Int → iST → Prop) (x2 : Int) (u : iST) : Prop := ∀ R10 : Int → iST → Prop, (∀ (x2 : Int) (u : iST), w_hasVariable_10b R10 Q x2 u → R10 x2 u) → R10 x2 u
set_option maxRecDepth 20000 in
set_option maxHeartbeats 4000000 in
theorem b_hasVariable_10 (X : kX p m c cX12_hasVariable 3 s args D ca) (hRf : 3 ≤ R.frames) (hRl : 67 ≤ R.locals) {Q : Int → iST → Prop} (hret : ∀ (v : Int) (u : iST) (H : Heap) (locs : List Loc) (ls : Array Slot) (pc : Nat), bz v → Q v u → kW D ca A h0 ad H0 H locs u → decode cX12_hasVariable pc = .ok (.ireturn, 1) → W p l e R s m args below meth c H locs 0 0 Qf (F0 m pc ls [.int (jI v)])) {x2 : Int} (rx2 : inR x2) (hw : kW D ca A h0 ad H0 H locs u) (hl : lv_has ls 3 [(0, .ref h0), (2, .int (jI x2))]) (h : w_hasVariable_10 Q x2 u) : W p l e R s m args below meth c H locs 0 0 Qf (F0 m 10 ls []) := by
  refine h (fun x2 u => ∀ (H : Heap) (locs : List Loc) (ls : Array Slot), inR x2 → kW D ca A h0 ad H0 H locs u → lv_has ls 3 [(0, .ref h0), (2, .int (jI x2))] → W p l e R s m args below meth c H locs 0 0 Qf (F0 m 10 ls [])) ?_ H locs ls rx2 hw hl
  clear h hl hw rx2
  intro x2 u h H locs ls rx2 hw hl
  have hR10 : ∀ (x2 : Int) (u : iST) (H : Heap) (locs : List Loc) (ls : Array Slot), inR x2 → kW D ca A h0 ad H0 H locs u → lv_has ls 3 [(0, .ref h0), (2, .int (jI x2))] → (fun (x2 : Int) u => ∀ (H : Heap) (locs : List Loc) (ls : Array Slot), inR x2 → kW D ca A h0 ad H0 H locs u → lv_has ls 3 [(0, .ref h0), (2, .int (jI x2))] → W p l e R s m args below meth c H locs 0 0 Qf (F0 m 10 ls [])) x2 u → W p l e R s m args below meth c H locs 0 0 Qf (F0 m 10 ls []) := fun x2 u H locs ls rx2 hw hl h => h H locs ls rx2 hw hl
  have hx := X.1.1
  have hb := X.1.2.1
  unfold w_hasVariable_10b at h
  refine lv_aload_n hx hb dX12_hasVariable_10 rfl (lv_at hl 0 rfl) ?_
  refine gS 76 549 (by decide) L_76 (fun _ _ => mF_76) rfl X hw dX12_hasVariable_11 h (fun v2 rv2 h => ?_)
  refine k_if_le hx hb rv2 dX12_hasVariable_14 (tgt := 27) rfl h (fun h => ?_) (fun h => ?_)
  · refine lv_iconst hx hb dX12_hasVariable_27 (v := jI 0) rfl ?_
    exact hret _ _ _ _ _ _ h.1 h.2 hw dX12_hasVariable_28
  · refine lv_aload_n hx hb dX12_hasVariable_17 rfl (lv_at hl 0 rfl) ?_
    refine kcI (n := 0) (c_walkOn h) G_walkOn E_walkOn X hw (Nat.le_trans (Nat.le_of_ble_eq_true rfl) hRf) (Nat.le_trans (Nat.le_of_ble_eq_true rfl) hRl) rfl hl.1 (Nat.le_of_ble_eq_true rfl) rfl dX12_hasVariable_18 (fun v3 u H locs rv3 h hw => ?_)
    refine lv_iload_n hx hb dX12_hasVariable_21 rfl (lv_at hl 1 rfl) ?_
    refine k_icmp_ne hx hb rv3 rx2 dX12_hasVariable_22 (tgt := 10) rfl h (fun h => ?_) (fun h => ?_)
    · exact hR10 _ _ H locs ls rx2 hw hl h
    · refine lv_iconst hx hb dX12_hasVariable_25 (v := jI 1) rfl ?_
      exact hret _ _ _ _ _ _ h.1 h.2 hw dX12_hasVariable_26

def w_hasVariable (a0 : Int) (a1 : Int) (Q : Int → iST → Prop) (u : iST) : Prop :=
  sw (iI u 76 0) (fun u => 
  w_walkTo a0 (fun u => 
  w_hasVariable_10 Q a1 u) u)
set_option maxRecDepth 20000 in
set_option maxHeartbeats 4000000 in
theorem b_hasVariable_s (X : kX p m c cX12_hasVariable 3 s args D ca) (hRf : 3 ≤ R.frames) (hRl : 67 ≤ R.locals) {Q : Int → iST → Prop} (hret : ∀ (v : Int) (u : iST) (H : Heap) (locs : List Loc) (ls : Array Slot) (pc : Nat), bz v → Q v u → kW D ca A h0 ad H0 H locs u → decode cX12_hasVariable pc = .ok (.ireturn, 1) → W p l e R s m args below meth c H locs 0 0 Qf (F0 m pc ls [.int (jI v)])) {a0 a1 : Int} (ra0 : inR a0) (ra1 : inR a1) (hw : kW D ca A h0 ad H0 H locs u) (hl : lv_has ls 3 [(0, .ref h0), (1, .int (jI a0)), (2, .int (jI a1))]) (h : w_hasVariable a0 a1 Q u) : W p l e R s m args below meth c H locs 0 0 Qf (F0 m 0 ls []) := by
  have hx := X.1.1
  have hb := X.1.2.1
  unfold w_hasVariable at h
  refine lv_aload_n hx hb dX12_hasVariable_0 rfl (lv_at hl 0 rfl) ?_
  refine lv_iconst hx hb dX12_hasVariable_1 (v := jI 0) rfl ?_
  refine pS 76 549 (by decide) L_76 rfl rfl rfl (fun _ _ _ _ _ => mSI_76) (by decide) X hw (by decide) dX12_hasVariable_2 h (fun H locs u hw h => ?_)
  refine lv_aload_n hx hb dX12_hasVariable_5 rfl (lv_at hl 0 rfl) ?_
  refine lv_iload_n hx hb dX12_hasVariable_6 rfl (lv_at hl 1 rfl) ?_
  refine kcV (n := 1) (c_walkTo ra0 h) G_walkTo E_walkTo X hw (Nat.le_trans (Nat.le_of_ble_eq_true rfl) hRf) (Nat.le_trans (Nat.le_of_ble_eq_true rfl) hRl) rfl hl.1 (Nat.le_of_ble_eq_true rfl) rfl dX12_hasVariable_7 (fun u H locs h hw => ?_)
  exact b_hasVariable_10 X hRf hRl hret ra1 hw (lv_sub hl [0, 2] rfl) h

end
theorem c_hasVariable {l : Launch} {a0 : Int} {a1 : Int} (ra0 : inR a0) (ra1 : inR a1) {Q : Int → iST → Prop} {u : iST} (h : w_hasVariable a0 a1 Q u) : kMI l yX12_hasVariable (.code yX12_hasVariable cX12_hasVariable 3 (some .boolean) :: wsM) { frames := 3, cells := 0, slots := 0, locals := 67 } [.int (jI a0), .int (jI a1)] Q u := kMZ_of rfl (fun _ => Nat.le_of_ble_eq_true rfl) (fun X hRf hRl hret hw hl => b_hasVariable_s X hRf hRl hret ra0 ra1 hw hl h)

/-! variablesOf -/
theorem dX12_variablesOf_0 : decode cX12_variablesOf 0 = .ok (.aload_n 0, 1) := by decide +kernel
theorem dX12_variablesOf_1 : decode cX12_variablesOf 1 = .ok (.iconst 0, 1) := by decide +kernel
theorem dX12_variablesOf_2 : decode cX12_variablesOf 2 = .ok (.putfield 558, 3) := by decide +kernel
theorem dX12_variablesOf_5 : decode cX12_variablesOf 5 = .ok (.aload_n 0, 1) := by decide +kernel
theorem dX12_variablesOf_6 : decode cX12_variablesOf 6 = .ok (.iconst 0, 1) := by decide +kernel
theorem dX12_variablesOf_7 : decode cX12_variablesOf 7 = .ok (.putfield 549, 3) := by decide +kernel
theorem dX12_variablesOf_10 : decode cX12_variablesOf 10 = .ok (.aload_n 0, 1) := by decide +kernel
theorem dX12_variablesOf_11 : decode cX12_variablesOf 11 = .ok (.iload_n 1, 1) := by decide +kernel
theorem dX12_variablesOf_12 : decode cX12_variablesOf 12 = .ok (.invokevirtual 552, 3) := by decide +kernel
theorem dX12_variablesOf_15 : decode cX12_variablesOf 15 = .ok (.aload_n 0, 1) := by decide +kernel
theorem dX12_variablesOf_16 : decode cX12_variablesOf 16 = .ok (.getfield 549, 3) := by decide +kernel
theorem dX12_variablesOf_19 : decode cX12_variablesOf 19 = .ok (.ifCond .le 83, 3) := by decide +kernel
theorem dX12_variablesOf_22 : decode cX12_variablesOf 22 = .ok (.aload_n 0, 1) := by decide +kernel
theorem dX12_variablesOf_23 : decode cX12_variablesOf 23 = .ok (.invokevirtual 555, 3) := by decide +kernel
theorem dX12_variablesOf_26 : decode cX12_variablesOf 26 = .ok (.istore_n 2, 1) := by decide +kernel
theorem dX12_variablesOf_27 : decode cX12_variablesOf 27 = .ok (.aload_n 0, 1) := by decide +kernel
theorem dX12_variablesOf_28 : decode cX12_variablesOf 28 = .ok (.iload_n 2, 1) := by decide +kernel
theorem dX12_variablesOf_29 : decode cX12_variablesOf 29 = .ok (.invokevirtual 504, 3) := by decide +kernel
theorem dX12_variablesOf_32 : decode cX12_variablesOf 32 = .ok (.istore_n 3, 1) := by decide +kernel
theorem dX12_variablesOf_33 : decode cX12_variablesOf 33 = .ok (.iconst 0, 1) := by decide +kernel
theorem dX12_variablesOf_34 : decode cX12_variablesOf 34 = .ok (.istore 4, 2) := by decide +kernel
theorem dX12_variablesOf_36 : decode cX12_variablesOf 36 = .ok (.iload 4, 2) := by decide +kernel
theorem dX12_variablesOf_38 : decode cX12_variablesOf 38 = .ok (.aload_n 0, 1) := by decide +kernel
theorem dX12_variablesOf_39 : decode cX12_variablesOf 39 = .ok (.getfield 558, 3) := by decide +kernel
theorem dX12_variablesOf_42 : decode cX12_variablesOf 42 = .ok (.if_icmp .ge 30, 3) := by decide +kernel
theorem dX12_variablesOf_45 : decode cX12_variablesOf 45 = .ok (.iload_n 3, 1) := by decide +kernel
theorem dX12_variablesOf_46 : decode cX12_variablesOf 46 = .ok (.ifCond .eq 26, 3) := by decide +kernel
theorem dX12_variablesOf_49 : decode cX12_variablesOf 49 = .ok (.aload_n 0, 1) := by decide +kernel
theorem dX12_variablesOf_50 : decode cX12_variablesOf 50 = .ok (.getfield 166, 3) := by decide +kernel
theorem dX12_variablesOf_53 : decode cX12_variablesOf 53 = .ok (.iload 4, 2) := by decide +kernel
theorem dX12_variablesOf_55 : decode cX12_variablesOf 55 = .ok (.iaload, 1) := by decide +kernel
theorem dX12_variablesOf_56 : decode cX12_variablesOf 56 = .ok (.iload_n 2, 1) := by decide +kernel
theorem dX12_variablesOf_57 : decode cX12_variablesOf 57 = .ok (.if_icmp .eq 7, 3) := by decide +kernel
theorem dX12_variablesOf_60 : decode cX12_variablesOf 60 = .ok (.iconst 1, 1) := by decide +kernel
theorem dX12_variablesOf_61 : decode cX12_variablesOf 61 = .ok (.goto 4, 3) := by decide +kernel
theorem dX12_variablesOf_64 : decode cX12_variablesOf 64 = .ok (.iconst 0, 1) := by decide +kernel
theorem dX12_variablesOf_65 : decode cX12_variablesOf 65 = .ok (.istore_n 3, 1) := by decide +kernel
theorem dX12_variablesOf_66 : decode cX12_variablesOf 66 = .ok (.iinc 4 1, 3) := by decide +kernel
theorem dX12_variablesOf_69 : decode cX12_variablesOf 69 = .ok (.goto (-33), 3) := by decide +kernel
theorem dX12_variablesOf_72 : decode cX12_variablesOf 72 = .ok (.iload_n 3, 1) := by decide +kernel
theorem dX12_variablesOf_73 : decode cX12_variablesOf 73 = .ok (.ifCond .ne 6, 3) := by decide +kernel
theorem dX12_variablesOf_76 : decode cX12_variablesOf 76 = .ok (.goto (-61), 3) := by decide +kernel
theorem dX12_variablesOf_79 : decode cX12_variablesOf 79 = .ok (.aload_n 0, 1) := by decide +kernel
theorem dX12_variablesOf_80 : decode cX12_variablesOf 80 = .ok (.getfield 166, 3) := by decide +kernel
theorem dX12_variablesOf_83 : decode cX12_variablesOf 83 = .ok (.aload_n 0, 1) := by decide +kernel
theorem dX12_variablesOf_84 : decode cX12_variablesOf 84 = .ok (.getfield 558, 3) := by decide +kernel
theorem dX12_variablesOf_87 : decode cX12_variablesOf 87 = .ok (.iload_n 2, 1) := by decide +kernel
theorem dX12_variablesOf_88 : decode cX12_variablesOf 88 = .ok (.iastore, 1) := by decide +kernel
theorem dX12_variablesOf_89 : decode cX12_variablesOf 89 = .ok (.aload_n 0, 1) := by decide +kernel
theorem dX12_variablesOf_90 : decode cX12_variablesOf 90 = .ok (.dup, 1) := by decide +kernel
theorem dX12_variablesOf_91 : decode cX12_variablesOf 91 = .ok (.getfield 558, 3) := by decide +kernel
theorem dX12_variablesOf_94 : decode cX12_variablesOf 94 = .ok (.iconst 1, 1) := by decide +kernel
theorem dX12_variablesOf_95 : decode cX12_variablesOf 95 = .ok (.iadd, 1) := by decide +kernel
theorem dX12_variablesOf_96 : decode cX12_variablesOf 96 = .ok (.putfield 558, 3) := by decide +kernel
theorem dX12_variablesOf_99 : decode cX12_variablesOf 99 = .ok (.goto (-84), 3) := by decide +kernel
theorem dX12_variablesOf_102 : decode cX12_variablesOf 102 = .ok (.return_, 1) := by decide +kernel

section
variable {p : Program} {l : Launch} {e : Env} {R : Room} {s : State} {m : MethodId} {args : Array Value} {below : List Frame} {meth : Method} {c : Code} {H : Heap} {locs : List Loc} {Qf : State → Prop}
variable {ls : Array Slot} {D : va_G} {ca : Nat → ClassId} {A : Nat → Prop} {h0 : Nat} {ad : Nat → Nat} {H0 : Heap} {u : iST}
def w_variablesOf_72 (R15 : iST → Prop) (Q : iST → Prop) (x2 : Int) (x3 : Int) (u : iST) : Prop :=
  br (x3 ≠ 0) (
    rd (u.1 78) (fun v6 => 
    bd v6 130 (sw (iA u 77 v6 x2) (fun u => 
    rd (u.1 78) (fun v7 => 
    ov (v7 + 1) (
    sw (iI u 78 (v7 + 1)) (fun u => 
    R15 u))))))) (
    R15 u)
set_option maxRecDepth 20000 in
set_option maxHeartbeats 4000000 in
theorem b_variablesOf_72 (X : kX p m c cX12_variablesOf 5 s args D ca) (hRf : 3 ≤ R.frames) (hRl : 67 ≤ R.locals) {Q : iST → Prop} (hret : ∀ (u : iST) (H : Heap) (locs : List Loc) (ls : Array Slot) (pc : Nat), Q u → kW D ca A h0 ad H0 H locs u → decode cX12_variablesOf pc = .ok (.return_, 1) → W p l e R s m args below meth c H locs 0 0 Qf (F0 m pc ls [])) {R15 : iST → Prop} (hR15 : ∀ (u : iST) (H : Heap) (locs : List Loc) (ls : Array Slot), kW D ca A h0 ad H0 H locs u → lv_has ls 5 [(0, .ref h0)] → R15 u → W p l e R s m args below meth c H locs 0 0 Qf (F0 m 15 ls [])) {x2 x3 : Int} (rx2 : inR x2) (rx3 : inR x3) (hw : kW D ca A h0 ad H0 H locs u) (hl : lv_has ls 5 [(0, .ref h0), (2, .int (jI x2)), (3, .int (jI x3))]) (h : w_variablesOf_72 R15 Q x2 x3 u) : W p l e R s m args below meth c H locs 0 0 Qf (F0 m 72 ls []) := by
  have hx := X.1.1
  have hb := X.1.2.1
  unfold w_variablesOf_72 at h
  refine lv_iload_n hx hb dX12_variablesOf_72 rfl (lv_at hl 2 rfl) ?_
  refine k_if_ne hx hb rx3 dX12_variablesOf_73 (tgt := 79) rfl h (fun h => ?_) (fun h => ?_)
  · refine lv_aload_n hx hb dX12_variablesOf_79 rfl (lv_at hl 0 rfl) ?_
    refine gA 77 166 (by decide) L_77 (fun _ _ => mF_77) rfl X hw dX12_variablesOf_80 ?_
    refine lv_aload_n hx hb dX12_variablesOf_83 rfl (lv_at hl 0 rfl) ?_
    refine gS 78 558 (by decide) L_78 (fun _ _ => mF_78) rfl X hw dX12_variablesOf_84 h (fun v6 rv6 h => ?_)
    refine lv_iload_n hx hb dX12_variablesOf_87 rfl (lv_at hl 1 rfl) ?_
    refine aS 77 48 47 130 (fun _ _ _ _ => mG_77) (fun _ => rfl) (fun _ _ _ _ _ _ => mSA_77) (by decide) X hw rv6 rx2 dX12_variablesOf_88 rfl h (fun H locs u hw h => ?_)
    refine lv_aload_n hx hb dX12_variablesOf_89 rfl (lv_at hl 0 rfl) ?_
    refine lv_dup hx hb dX12_variablesOf_90 rfl ?_
    refine gS 78 558 (by decide) L_78 (fun _ _ => mF_78) rfl X hw dX12_variablesOf_91 h (fun v7 rv7 h => ?_)
    refine lv_iconst hx hb dX12_variablesOf_94 (v := jI 1) rfl ?_
    refine k_iadd hx hb dX12_variablesOf_95 h (fun r8 h => ?_)
    refine pS 78 558 (by decide) L_78 rfl rfl rfl (fun _ _ _ _ _ => mSI_78) (by decide) X hw r8 dX12_variablesOf_96 h (fun H locs u hw h => ?_)
    refine lv_goto hx hb dX12_variablesOf_99 (tgt := 15) rfl ?_
    exact hR15 _ H locs ls hw (lv_sub hl [0] rfl) h
  · refine lv_goto hx hb dX12_variablesOf_76 (tgt := 15) rfl ?_
    exact hR15 _ H locs ls hw (lv_sub hl [0] rfl) h

def w_variablesOf_36b (R15 : iST → Prop) (R36 : Int → Int → Int → iST → Prop) (Q : iST → Prop) (x2 : Int) (x3 : Int) (x4 : Int) (u : iST) : Prop :=
  rd (u.1 78) (fun v5 => 
  br (v5 ≤ x4) (
    w_variablesOf_72 R15 Q x2 x3 u) (
    br (x3 = 0) (
      w_variablesOf_72 R15 Q x2 x3 u) (
      bd x4 130 (rd (u.2.1 77 x4) (fun v9 => 
      br (v9 = x2) (
        ov (x4 + 1) (
        R36 x2 0 (x4 + 1) u)) (
        ov (x4 + 1) (
        R36 x2 1 (x4 + 1) u)))))))
def w_variablesOf_36 (R15 : iST → Prop) (Q : iST → Prop) (x2 : Int) (x3 : Int) (x4 : Int) (u : iST) : Prop := ∀ R36 : Int → Int → Int → iST → Prop, (∀ (x2 : Int) (x3 : Int) (x4 : Int) (u : iST), w_variablesOf_36b R15 R36 Q x2 x3 x4 u → R36 x2 x3 x4 u) → R36 x2 x3 x4 u
set_option maxRecDepth 20000 in
set_option maxHeartbeats 4000000 in
theorem b_variablesOf_36 (X : kX p m c cX12_variablesOf 5 s args D ca) (hRf : 3 ≤ R.frames) (hRl : 67 ≤ R.locals) {Q : iST → Prop} (hret : ∀ (u : iST) (H : Heap) (locs : List Loc) (ls : Array Slot) (pc : Nat), Q u → kW D ca A h0 ad H0 H locs u → decode cX12_variablesOf pc = .ok (.return_, 1) → W p l e R s m args below meth c H locs 0 0 Qf (F0 m pc ls [])) {R15 : iST → Prop} (hR15 : ∀ (u : iST) (H : Heap) (locs : List Loc) (ls : Array Slot), kW D ca A h0 ad H0 H locs u → lv_has ls 5 [(0, .ref h0)] → R15 u → W p l e R s m args below meth c H locs 0 0 Qf (F0 m 15 ls [])) {x2 x3 x4 : Int} (rx2 : inR x2) (rx3 : inR x3) (rx4 : inR x4) (hw : kW D ca A h0 ad H0 H locs u) (hl : lv_has ls 5 [(0, .ref h0), (2, .int (jI x2)), (3, .int (jI x3)), (4, .int (jI x4))]) (h : w_variablesOf_36 R15 Q x2 x3 x4 u) : W p l e R s m args below meth c H locs 0 0 Qf (F0 m 36 ls []) := by
  refine h (fun x2 x3 x4 u => ∀ (H : Heap) (locs : List Loc) (ls : Array Slot), inR x2 → inR x3 → inR x4 → kW D ca A h0 ad H0 H locs u → lv_has ls 5 [(0, .ref h0), (2, .int (jI x2)), (3, .int (jI x3)), (4, .int (jI x4))] → W p l e R s m args below meth c H locs 0 0 Qf (F0 m 36 ls [])) ?_ H locs ls rx2 rx3 rx4 hw hl
  clear h hl hw rx2 rx3 rx4
  intro x2 x3 x4 u h H locs ls rx2 rx3 rx4 hw hl
  have hR36 : ∀ (x2 : Int) (x3 : Int) (x4 : Int) (u : iST) (H : Heap) (locs : List Loc) (ls : Array Slot), inR x2 → inR x3 → inR x4 → kW D ca A h0 ad H0 H locs u → lv_has ls 5 [(0, .ref h0), (2, .int (jI x2)), (3, .int (jI x3)), (4, .int (jI x4))] → (fun (x2 : Int) (x3 : Int) (x4 : Int) u => ∀ (H : Heap) (locs : List Loc) (ls : Array Slot), inR x2 → inR x3 → inR x4 → kW D ca A h0 ad H0 H locs u → lv_has ls 5 [(0, .ref h0), (2, .int (jI x2)), (3, .int (jI x3)), (4, .int (jI x4))] → W p l e R s m args below meth c H locs 0 0 Qf (F0 m 36 ls [])) x2 x3 x4 u → W p l e R s m args below meth c H locs 0 0 Qf (F0 m 36 ls []) := fun x2 x3 x4 u H locs ls rx2 rx3 rx4 hw hl h => h H locs ls rx2 rx3 rx4 hw hl
  have hx := X.1.1
  have hb := X.1.2.1
  unfold w_variablesOf_36b at h
  refine lv_iload hx hb dX12_variablesOf_36 (lv_at hl 3 rfl) ?_
  refine lv_aload_n hx hb dX12_variablesOf_38 rfl (lv_at hl 0 rfl) ?_
  refine gS 78 558 (by decide) L_78 (fun _ _ => mF_78) rfl X hw dX12_variablesOf_39 h (fun v5 rv5 h => ?_)
  refine k_icmp_ge hx hb rx4 rv5 dX12_variablesOf_42 (tgt := 72) rfl h (fun h => ?_) (fun h => ?_)
  · exact b_variablesOf_72 X hRf hRl hret hR15 rx2 rx3 hw (lv_sub hl [0, 1, 2] rfl) h
  · refine lv_iload_n hx hb dX12_variablesOf_45 rfl (lv_at hl 2 rfl) ?_
    refine k_if_eq hx hb rx3 dX12_variablesOf_46 (tgt := 72) rfl h (fun h => ?_) (fun h => ?_)
    · exact b_variablesOf_72 X hRf hRl hret hR15 rx2 rx3 hw (lv_sub hl [0, 1, 2] rfl) h
    · refine lv_aload_n hx hb dX12_variablesOf_49 rfl (lv_at hl 0 rfl) ?_
      refine gA 77 166 (by decide) L_77 (fun _ _ => mF_77) rfl X hw dX12_variablesOf_50 ?_
      refine lv_iload hx hb dX12_variablesOf_53 (lv_at hl 3 rfl) ?_
      refine aL 77 48 47 130 (fun _ _ _ _ => mG_77) (fun _ => rfl) X hw rx4 dX12_variablesOf_55 rfl h (fun v9 rv9 h => ?_)
      refine lv_iload_n hx hb dX12_variablesOf_56 rfl (lv_at hl 1 rfl) ?_
      refine k_icmp_eq hx hb rv9 rx2 dX12_variablesOf_57 (tgt := 64) rfl h (fun h => ?_) (fun h => ?_)
      · refine lv_iconst hx hb dX12_variablesOf_64 (v := jI 0) rfl ?_
        refine lv_istore_n hx hb dX12_variablesOf_65 rfl hl (by decide) rfl (fun ls hl => ?_)
        have hl : lv_has ls 5 [(3, .int (jI 0)), (0, .ref (h0)), (2, .int (jI x2)), (4, .int (jI x4))] := hl
        refine k_iinc (k := 3) hx hb dX12_variablesOf_66 hl rfl (by decide) rfl h (fun ls r10 h hl => ?_)
        have hl : lv_has ls 5 [(4, .int (jI (x4 + 1))), (3, .int (jI 0)), (0, .ref (h0)), (2, .int (jI x2))] := hl
        refine lv_goto hx hb dX12_variablesOf_69 (tgt := 36) rfl ?_
        exact hR36 _ _ _ _ H locs ls rx2 (by decide) r10 hw (lv_sub hl [2, 3, 1, 0] rfl) h
      · refine lv_iconst hx hb dX12_variablesOf_60 (v := jI 1) rfl ?_
        refine lv_goto hx hb dX12_variablesOf_61 (tgt := 65) rfl ?_
        refine lv_istore_n hx hb dX12_variablesOf_65 rfl hl (by decide) rfl (fun ls hl => ?_)
        have hl : lv_has ls 5 [(3, .int (jI 1)), (0, .ref (h0)), (2, .int (jI x2)), (4, .int (jI x4))] := hl
        refine k_iinc (k := 3) hx hb dX12_variablesOf_66 hl rfl (by decide) rfl h (fun ls r11 h hl => ?_)
        have hl : lv_has ls 5 [(4, .int (jI (x4 + 1))), (3, .int (jI 1)), (0, .ref (h0)), (2, .int (jI x2))] := hl
        refine lv_goto hx hb dX12_variablesOf_69 (tgt := 36) rfl ?_
        exact hR36 _ _ _ _ H locs ls rx2 (by decide) r11 hw (lv_sub hl [2, 3, 1, 0] rfl) h

def w_variablesOf_15b (R15 : iST → Prop) (Q : iST → Prop) (u : iST) : Prop :=
  rd (u.1 76) (fun v2 => 
  br (v2 ≤ 0) (
    Q u) (
    w_walkOn (fun v3 u => 
    w_isVariable v3 (fun v4 u => 
    w_variablesOf_36 R15 Q v3 v4 0 u) u) u))
def w_variablesOf_15 (Q : iST → Prop) (u : iST) : Prop := ∀ R15 : iST → Prop, (∀ (u : iST), w_variablesOf_15b R15 Q u → R15 u) → R15 u
set_option maxRecDepth 20000 in
set_option maxHeartbeats 4000000 in
theorem b_variablesOf_15 (X : kX p m c cX12_variablesOf 5 s args D ca) (hRf : 3 ≤ R.frames) (hRl : 67 ≤ R.locals) {Q : iST → Prop} (hret : ∀ (u : iST) (H : Heap) (locs : List Loc) (ls : Array Slot) (pc : Nat), Q u → kW D ca A h0 ad H0 H locs u → decode cX12_variablesOf pc = .ok (.return_, 1) → W p l e R s m args below meth c H locs 0 0 Qf (F0 m pc ls [])) (hw : kW D ca A h0 ad H0 H locs u) (hl : lv_has ls 5 [(0, .ref h0)]) (h : w_variablesOf_15 Q u) : W p l e R s m args below meth c H locs 0 0 Qf (F0 m 15 ls []) := by
  refine h (fun u => ∀ (H : Heap) (locs : List Loc) (ls : Array Slot), kW D ca A h0 ad H0 H locs u → lv_has ls 5 [(0, .ref h0)] → W p l e R s m args below meth c H locs 0 0 Qf (F0 m 15 ls [])) ?_ H locs ls hw hl
  clear h hl hw
  intro u h H locs ls hw hl
  have hR15 : ∀ (u : iST) (H : Heap) (locs : List Loc) (ls : Array Slot), kW D ca A h0 ad H0 H locs u → lv_has ls 5 [(0, .ref h0)] → (fun u => ∀ (H : Heap) (locs : List Loc) (ls : Array Slot), kW D ca A h0 ad H0 H locs u → lv_has ls 5 [(0, .ref h0)] → W p l e R s m args below meth c H locs 0 0 Qf (F0 m 15 ls [])) u → W p l e R s m args below meth c H locs 0 0 Qf (F0 m 15 ls []) := fun u H locs ls hw hl h => h H locs ls hw hl
  have hx := X.1.1
  have hb := X.1.2.1
  unfold w_variablesOf_15b at h
  refine lv_aload_n hx hb dX12_variablesOf_15 rfl (lv_at hl 0 rfl) ?_
  refine gS 76 549 (by decide) L_76 (fun _ _ => mF_76) rfl X hw dX12_variablesOf_16 h (fun v2 rv2 h => ?_)
  refine k_if_le hx hb rv2 dX12_variablesOf_19 (tgt := 102) rfl h (fun h => ?_) (fun h => ?_)
  · exact hret _ _ _ _ _ h hw dX12_variablesOf_102
  · refine lv_aload_n hx hb dX12_variablesOf_22 rfl (lv_at hl 0 rfl) ?_
    refine kcI (n := 0) (c_walkOn h) G_walkOn E_walkOn X hw (Nat.le_trans (Nat.le_of_ble_eq_true rfl) hRf) (Nat.le_trans (Nat.le_of_ble_eq_true rfl) hRl) rfl hl.1 (Nat.le_of_ble_eq_true rfl) rfl dX12_variablesOf_23 (fun v3 u H locs rv3 h hw => ?_)
    refine lv_istore_n hx hb dX12_variablesOf_26 rfl hl (by decide) rfl (fun ls hl => ?_)
    have hl : lv_has ls 5 [(2, .int (jI v3)), (0, .ref (h0))] := hl
    refine lv_aload_n hx hb dX12_variablesOf_27 rfl (lv_at hl 1 rfl) ?_
    refine lv_iload_n hx hb dX12_variablesOf_28 rfl (lv_at hl 0 rfl) ?_
    refine kcI (n := 1) (c_isVariable rv3 h) G_isVariable E_isVariable X hw (Nat.le_trans (Nat.le_of_ble_eq_true rfl) hRf) (Nat.le_trans (Nat.le_of_ble_eq_true rfl) hRl) rfl hl.1 (Nat.le_of_ble_eq_true rfl) rfl dX12_variablesOf_29 (fun v4 u H locs rv4 h hw => ?_)
    refine lv_istore_n hx hb dX12_variablesOf_32 rfl hl (by decide) rfl (fun ls hl => ?_)
    have hl : lv_has ls 5 [(3, .int (jI v4)), (2, .int (jI v3)), (0, .ref (h0))] := hl
    refine lv_iconst hx hb dX12_variablesOf_33 (v := jI 0) rfl ?_
    refine lv_istore hx hb dX12_variablesOf_34 hl (by decide) rfl (fun ls hl => ?_)
    have hl : lv_has ls 5 [(4, .int (jI 0)), (3, .int (jI v4)), (2, .int (jI v3)), (0, .ref (h0))] := hl
    exact b_variablesOf_36 X hRf hRl hret hR15 rv3 rv4 (by decide) hw (lv_sub hl [3, 2, 1, 0] rfl) h

def w_variablesOf (a0 : Int) (Q : iST → Prop) (u : iST) : Prop :=
  sw (iI u 78 0) (fun u => 
  sw (iI u 76 0) (fun u => 
  w_walkTo a0 (fun u => 
  w_variablesOf_15 Q u) u))
set_option maxRecDepth 20000 in
set_option maxHeartbeats 4000000 in
theorem b_variablesOf_s (X : kX p m c cX12_variablesOf 5 s args D ca) (hRf : 3 ≤ R.frames) (hRl : 67 ≤ R.locals) {Q : iST → Prop} (hret : ∀ (u : iST) (H : Heap) (locs : List Loc) (ls : Array Slot) (pc : Nat), Q u → kW D ca A h0 ad H0 H locs u → decode cX12_variablesOf pc = .ok (.return_, 1) → W p l e R s m args below meth c H locs 0 0 Qf (F0 m pc ls [])) {a0 : Int} (ra0 : inR a0) (hw : kW D ca A h0 ad H0 H locs u) (hl : lv_has ls 5 [(0, .ref h0), (1, .int (jI a0))]) (h : w_variablesOf a0 Q u) : W p l e R s m args below meth c H locs 0 0 Qf (F0 m 0 ls []) := by
  have hx := X.1.1
  have hb := X.1.2.1
  unfold w_variablesOf at h
  refine lv_aload_n hx hb dX12_variablesOf_0 rfl (lv_at hl 0 rfl) ?_
  refine lv_iconst hx hb dX12_variablesOf_1 (v := jI 0) rfl ?_
  refine pS 78 558 (by decide) L_78 rfl rfl rfl (fun _ _ _ _ _ => mSI_78) (by decide) X hw (by decide) dX12_variablesOf_2 h (fun H locs u hw h => ?_)
  refine lv_aload_n hx hb dX12_variablesOf_5 rfl (lv_at hl 0 rfl) ?_
  refine lv_iconst hx hb dX12_variablesOf_6 (v := jI 0) rfl ?_
  refine pS 76 549 (by decide) L_76 rfl rfl rfl (fun _ _ _ _ _ => mSI_76) (by decide) X hw (by decide) dX12_variablesOf_7 h (fun H locs u hw h => ?_)
  refine lv_aload_n hx hb dX12_variablesOf_10 rfl (lv_at hl 0 rfl) ?_
  refine lv_iload_n hx hb dX12_variablesOf_11 rfl (lv_at hl 1 rfl) ?_
  refine kcV (n := 1) (c_walkTo ra0 h) G_walkTo E_walkTo X hw (Nat.le_trans (Nat.le_of_ble_eq_true rfl) hRf) (Nat.le_trans (Nat.le_of_ble_eq_true rfl) hRl) rfl hl.1 (Nat.le_of_ble_eq_true rfl) rfl dX12_variablesOf_12 (fun u H locs h hw => ?_)
  exact b_variablesOf_15 X hRf hRl hret hw (lv_sub hl [0] rfl) h

end
theorem c_variablesOf {l : Launch} {a0 : Int} (ra0 : inR a0) {Q : iST → Prop} {u : iST} (h : w_variablesOf a0 Q u) : kMV l yX12_variablesOf (.code yX12_variablesOf cX12_variablesOf 5 none :: wsM) { frames := 3, cells := 0, slots := 0, locals := 67 } [.int (jI a0)] Q u := kMV_of rfl (fun _ => Nat.le_of_ble_eq_true rfl) (fun X hRf hRl hret hw hl => b_variablesOf_s X hRf hRl hret ra0 hw hl h)

/-! isStep -/
theorem dX12_isStep_0 : decode cX12_isStep 0 = .ok (.aload_n 0, 1) := by decide +kernel
theorem dX12_isStep_1 : decode cX12_isStep 1 = .ok (.getfield 561, 3) := by decide +kernel
theorem dX12_isStep_4 : decode cX12_isStep 4 = .ok (.aload_n 0, 1) := by decide +kernel
theorem dX12_isStep_5 : decode cX12_isStep 5 = .ok (.getfield 139, 3) := by decide +kernel
theorem dX12_isStep_8 : decode cX12_isStep 8 = .ok (.if_icmp .ne 10, 3) := by decide +kernel
theorem dX12_isStep_11 : decode cX12_isStep 11 = .ok (.aload_n 0, 1) := by decide +kernel
theorem dX12_isStep_12 : decode cX12_isStep 12 = .ok (.iconst 1, 1) := by decide +kernel
theorem dX12_isStep_13 : decode cX12_isStep 13 = .ok (.invokevirtual 517, 3) := by decide +kernel
theorem dX12_isStep_16 : decode cX12_isStep 16 = .ok (.iconst 0, 1) := by decide +kernel
theorem dX12_isStep_17 : decode cX12_isStep 17 = .ok (.ireturn, 1) := by decide +kernel
theorem dX12_isStep_18 : decode cX12_isStep 18 = .ok (.aload_n 0, 1) := by decide +kernel
theorem dX12_isStep_19 : decode cX12_isStep 19 = .ok (.dup, 1) := by decide +kernel
theorem dX12_isStep_20 : decode cX12_isStep 20 = .ok (.getfield 561, 3) := by decide +kernel
theorem dX12_isStep_23 : decode cX12_isStep 23 = .ok (.iconst 1, 1) := by decide +kernel
theorem dX12_isStep_24 : decode cX12_isStep 24 = .ok (.iadd, 1) := by decide +kernel
theorem dX12_isStep_25 : decode cX12_isStep 25 = .ok (.putfield 561, 3) := by decide +kernel
theorem dX12_isStep_28 : decode cX12_isStep 28 = .ok (.iconst 1, 1) := by decide +kernel
theorem dX12_isStep_29 : decode cX12_isStep 29 = .ok (.ireturn, 1) := by decide +kernel

section
variable {p : Program} {l : Launch} {e : Env} {R : Room} {s : State} {m : MethodId} {args : Array Value} {below : List Frame} {meth : Method} {c : Code} {H : Heap} {locs : List Loc} {Qf : State → Prop}
variable {ls : Array Slot} {D : va_G} {ca : Nat → ClassId} {A : Nat → Prop} {h0 : Nat} {ad : Nat → Nat} {H0 : Heap} {u : iST}
def w_isStep (Q : Int → iST → Prop) (u : iST) : Prop :=
  rd (u.1 60) (fun v1 => 
  rd (u.1 59) (fun v2 => 
  br (v1 ≠ v2) (
    rd (u.1 60) (fun v3 => 
    ov (v3 + 1) (
    sw (iI u 60 (v3 + 1)) (fun u => 
    zt 1 (Q 1 u))))) (
    w_fail 1 (fun u => 
    zt 0 (Q 0 u)) u)))
set_option maxRecDepth 20000 in
set_option maxHeartbeats 4000000 in
theorem b_isStep_s (X : kX p m c cX12_isStep 1 s args D ca) (hRf : 1 ≤ R.frames) (hRl : 21 ≤ R.locals) {Q : Int → iST → Prop} (hret : ∀ (v : Int) (u : iST) (H : Heap) (locs : List Loc) (ls : Array Slot) (pc : Nat), bz v → Q v u → kW D ca A h0 ad H0 H locs u → decode cX12_isStep pc = .ok (.ireturn, 1) → W p l e R s m args below meth c H locs 0 0 Qf (F0 m pc ls [.int (jI v)])) (hw : kW D ca A h0 ad H0 H locs u) (hl : lv_has ls 1 [(0, .ref h0)]) (h : w_isStep Q u) : W p l e R s m args below meth c H locs 0 0 Qf (F0 m 0 ls []) := by
  have hx := X.1.1
  have hb := X.1.2.1
  unfold w_isStep at h
  refine lv_aload_n hx hb dX12_isStep_0 rfl (lv_at hl 0 rfl) ?_
  refine gS 60 561 (by decide) L_60 (fun _ _ => mF_60) rfl X hw dX12_isStep_1 h (fun v1 rv1 h => ?_)
  refine lv_aload_n hx hb dX12_isStep_4 rfl (lv_at hl 0 rfl) ?_
  refine gS 59 139 (by decide) L_59 (fun _ _ => mF_59) rfl X hw dX12_isStep_5 h (fun v2 rv2 h => ?_)
  refine k_icmp_ne hx hb rv1 rv2 dX12_isStep_8 (tgt := 18) rfl h (fun h => ?_) (fun h => ?_)
  · refine lv_aload_n hx hb dX12_isStep_18 rfl (lv_at hl 0 rfl) ?_
    refine lv_dup hx hb dX12_isStep_19 rfl ?_
    refine gS 60 561 (by decide) L_60 (fun _ _ => mF_60) rfl X hw dX12_isStep_20 h (fun v3 rv3 h => ?_)
    refine lv_iconst hx hb dX12_isStep_23 (v := jI 1) rfl ?_
    refine k_iadd hx hb dX12_isStep_24 h (fun r4 h => ?_)
    refine pS 60 561 (by decide) L_60 rfl rfl rfl (fun _ _ _ _ _ => mSI_60) (by decide) X hw r4 dX12_isStep_25 h (fun H locs u hw h => ?_)
    refine lv_iconst hx hb dX12_isStep_28 (v := jI 1) rfl ?_
    exact hret _ _ _ _ _ _ h.1 h.2 hw dX12_isStep_29
  · refine lv_aload_n hx hb dX12_isStep_11 rfl (lv_at hl 0 rfl) ?_
    refine lv_iconst hx hb dX12_isStep_12 (v := jI 1) rfl ?_
    refine kcV (n := 1) (c_fail (by decide) h) G_fail E_fail X hw (Nat.le_trans (Nat.le_of_ble_eq_true rfl) hRf) (Nat.le_trans (Nat.le_of_ble_eq_true rfl) hRl) rfl hl.1 (Nat.le_of_ble_eq_true rfl) rfl dX12_isStep_13 (fun u H locs h hw => ?_)
    refine lv_iconst hx hb dX12_isStep_16 (v := jI 0) rfl ?_
    exact hret _ _ _ _ _ _ h.1 h.2 hw dX12_isStep_17

end
theorem c_isStep {l : Launch} {Q : Int → iST → Prop} {u : iST} (h : w_isStep Q u) : kMI l yX12_isStep (.code yX12_isStep cX12_isStep 1 (some .boolean) :: wsM) { frames := 1, cells := 0, slots := 0, locals := 21 } [] Q u := kMZ_of rfl (fun _ => Nat.le_of_ble_eq_true rfl) (fun X hRf hRl hret hw hl => b_isStep_s X hRf hRl hret hw hl h)
