/-! beginProof -/
theorem dX12_beginProof_0 : decode cX12_beginProof 0 = .ok (.aload_n 0, 1) := by decide +kernel
theorem dX12_beginProof_1 : decode cX12_beginProof 1 = .ok (.getfield 480, 3) := by decide +kernel
theorem dX12_beginProof_4 : decode cX12_beginProof 4 = .ok (.ifCond .eq 4, 3) := by decide +kernel
theorem dX12_beginProof_7 : decode cX12_beginProof 7 = .ok (.return_, 1) := by decide +kernel
theorem dX12_beginProof_8 : decode cX12_beginProof 8 = .ok (.aload_n 0, 1) := by decide +kernel
theorem dX12_beginProof_9 : decode cX12_beginProof 9 = .ok (.getfield 926, 3) := by decide +kernel
theorem dX12_beginProof_12 : decode cX12_beginProof 12 = .ok (.bipush 40, 2) := by decide +kernel
theorem dX12_beginProof_14 : decode cX12_beginProof 14 = .ok (.if_icmp .ne 9, 3) := by decide +kernel
theorem dX12_beginProof_17 : decode cX12_beginProof 17 = .ok (.aload_n 0, 1) := by decide +kernel
theorem dX12_beginProof_18 : decode cX12_beginProof 18 = .ok (.iconst 2, 1) := by decide +kernel
theorem dX12_beginProof_19 : decode cX12_beginProof 19 = .ok (.invokevirtual 517, 3) := by decide +kernel
theorem dX12_beginProof_22 : decode cX12_beginProof 22 = .ok (.return_, 1) := by decide +kernel
theorem dX12_beginProof_23 : decode cX12_beginProof 23 = .ok (.aload_n 0, 1) := by decide +kernel
theorem dX12_beginProof_24 : decode cX12_beginProof 24 = .ok (.invokevirtual 615, 3) := by decide +kernel
theorem dX12_beginProof_27 : decode cX12_beginProof 27 = .ok (.ifCond .ne 4, 3) := by decide +kernel
theorem dX12_beginProof_30 : decode cX12_beginProof 30 = .ok (.return_, 1) := by decide +kernel
theorem dX12_beginProof_31 : decode cX12_beginProof 31 = .ok (.aload_n 0, 1) := by decide +kernel
theorem dX12_beginProof_32 : decode cX12_beginProof 32 = .ok (.iload_n 1, 1) := by decide +kernel
theorem dX12_beginProof_33 : decode cX12_beginProof 33 = .ok (.invokevirtual 929, 3) := by decide +kernel
theorem dX12_beginProof_36 : decode cX12_beginProof 36 = .ok (.ifCond .ne 9, 3) := by decide +kernel
theorem dX12_beginProof_39 : decode cX12_beginProof 39 = .ok (.aload_n 0, 1) := by decide +kernel
theorem dX12_beginProof_40 : decode cX12_beginProof 40 = .ok (.iload_n 1, 1) := by decide +kernel
theorem dX12_beginProof_41 : decode cX12_beginProof 41 = .ok (.putfield 932, 3) := by decide +kernel
theorem dX12_beginProof_44 : decode cX12_beginProof 44 = .ok (.return_, 1) := by decide +kernel
theorem dX12_beginProof_45 : decode cX12_beginProof 45 = .ok (.aload_n 0, 1) := by decide +kernel
theorem dX12_beginProof_46 : decode cX12_beginProof 46 = .ok (.getfield 290, 3) := by decide +kernel
theorem dX12_beginProof_49 : decode cX12_beginProof 49 = .ok (.aload_n 0, 1) := by decide +kernel
theorem dX12_beginProof_50 : decode cX12_beginProof 50 = .ok (.getfield 926, 3) := by decide +kernel
theorem dX12_beginProof_53 : decode cX12_beginProof 53 = .ok (.iload_n 1, 1) := by decide +kernel
theorem dX12_beginProof_54 : decode cX12_beginProof 54 = .ok (.iastore, 1) := by decide +kernel
theorem dX12_beginProof_55 : decode cX12_beginProof 55 = .ok (.aload_n 0, 1) := by decide +kernel
theorem dX12_beginProof_56 : decode cX12_beginProof 56 = .ok (.getfield 293, 3) := by decide +kernel
theorem dX12_beginProof_59 : decode cX12_beginProof 59 = .ok (.aload_n 0, 1) := by decide +kernel
theorem dX12_beginProof_60 : decode cX12_beginProof 60 = .ok (.getfield 926, 3) := by decide +kernel
theorem dX12_beginProof_63 : decode cX12_beginProof 63 = .ok (.aload_n 0, 1) := by decide +kernel
theorem dX12_beginProof_64 : decode cX12_beginProof 64 = .ok (.getfield 8, 3) := by decide +kernel
theorem dX12_beginProof_67 : decode cX12_beginProof 67 = .ok (.iload_n 1, 1) := by decide +kernel
theorem dX12_beginProof_68 : decode cX12_beginProof 68 = .ok (.iaload, 1) := by decide +kernel
theorem dX12_beginProof_69 : decode cX12_beginProof 69 = .ok (.invokestatic 935, 3) := by decide +kernel
theorem dX12_beginProof_72 : decode cX12_beginProof 72 = .ok (.iastore, 1) := by decide +kernel
theorem dX12_beginProof_73 : decode cX12_beginProof 73 = .ok (.aload_n 0, 1) := by decide +kernel
theorem dX12_beginProof_74 : decode cX12_beginProof 74 = .ok (.getfield 296, 3) := by decide +kernel
theorem dX12_beginProof_77 : decode cX12_beginProof 77 = .ok (.aload_n 0, 1) := by decide +kernel
theorem dX12_beginProof_78 : decode cX12_beginProof 78 = .ok (.getfield 926, 3) := by decide +kernel
theorem dX12_beginProof_81 : decode cX12_beginProof 81 = .ok (.aload_n 0, 1) := by decide +kernel
theorem dX12_beginProof_82 : decode cX12_beginProof 82 = .ok (.getfield 938, 3) := by decide +kernel
theorem dX12_beginProof_85 : decode cX12_beginProof 85 = .ok (.iastore, 1) := by decide +kernel
theorem dX12_beginProof_86 : decode cX12_beginProof 86 = .ok (.aload_n 0, 1) := by decide +kernel
theorem dX12_beginProof_87 : decode cX12_beginProof 87 = .ok (.dup, 1) := by decide +kernel
theorem dX12_beginProof_88 : decode cX12_beginProof 88 = .ok (.getfield 926, 3) := by decide +kernel
theorem dX12_beginProof_91 : decode cX12_beginProof 91 = .ok (.iconst 1, 1) := by decide +kernel
theorem dX12_beginProof_92 : decode cX12_beginProof 92 = .ok (.iadd, 1) := by decide +kernel
theorem dX12_beginProof_93 : decode cX12_beginProof 93 = .ok (.putfield 926, 3) := by decide +kernel
theorem dX12_beginProof_96 : decode cX12_beginProof 96 = .ok (.return_, 1) := by decide +kernel

section
variable {p : Program} {l : Launch} {e : Env} {R : Room} {s : State} {m : MethodId} {args : Array Value} {below : List Frame} {meth : Method} {c : Code} {H : Heap} {locs : List Loc} {Qf : State → Prop}
variable {ls : Array Slot} {D : va_G} {ca : Nat → ClassId} {A : Nat → Prop} {h0 : Nat} {ad : Nat → Nat} {H0 : Heap} {u : iST}
def w_beginProof (a0 : Int) (Q : iST → Prop) (u : iST) : Prop :=
  rd (u.1 61) (fun v1 => 
  br (v1 = 0) (
    rd (u.1 144) (fun v2 => 
    br (v2 ≠ 40) (
      w_isStep (fun v3 u => 
      br (v3 ≠ 0) (
        w_isForm a0 (fun v4 u => 
        br (v4 ≠ 0) (
          rd (u.1 144) (fun v5 => 
          bd v5 40 (sw (iA u 141 v5 a0) (fun u => 
          rd (u.1 144) (fun v6 => 
          bd a0 452000 (rd (u.2.1 0 a0) (fun v7 => 
          w_partsFrom v7 (fun v8 u => 
          bd v6 40 (sw (iA u 142 v6 v8) (fun u => 
          rd (u.1 144) (fun v9 => 
          rd (u.1 147) (fun v10 => 
          bd v9 40 (sw (iA u 143 v9 v10) (fun u => 
          rd (u.1 144) (fun v11 => 
          ov (v11 + 1) (
          sw (iI u 144 (v11 + 1)) (fun u => 
          Q u)))))))))) u))))))) (
          sw (iI u 148 a0) (fun u => 
          Q u))) u) (
        Q u)) u) (
      w_fail 2 (fun u => 
      Q u) u))) (
    Q u))
set_option maxRecDepth 20000 in
set_option maxHeartbeats 4000000 in
theorem b_beginProof_s (X : kX p m c cX12_beginProof 2 s args D ca) (hRf : 10 ≤ R.frames) (hRl : 227 ≤ R.locals) {Q : iST → Prop} (hret : ∀ (u : iST) (H : Heap) (locs : List Loc) (ls : Array Slot) (pc : Nat), Q u → kW D ca A h0 ad H0 H locs u → decode cX12_beginProof pc = .ok (.return_, 1) → W p l e R s m args below meth c H locs 0 0 Qf (F0 m pc ls [])) {a0 : Int} (ra0 : inR a0) (hw : kW D ca A h0 ad H0 H locs u) (hl : lv_has ls 2 [(0, .ref h0), (1, .int (jI a0))]) (h : w_beginProof a0 Q u) : W p l e R s m args below meth c H locs 0 0 Qf (F0 m 0 ls []) := by
  have hx := X.1.1
  have hb := X.1.2.1
  unfold w_beginProof at h
  refine lv_aload_n hx hb dX12_beginProof_0 rfl (lv_at hl 0 rfl) ?_
  refine gS 61 480 (by decide) L_61 (fun _ _ => mF_61) rfl X hw dX12_beginProof_1 h (fun v1 rv1 h => ?_)
  refine k_if_eq hx hb rv1 dX12_beginProof_4 (tgt := 8) rfl h (fun h => ?_) (fun h => ?_)
  · refine lv_aload_n hx hb dX12_beginProof_8 rfl (lv_at hl 0 rfl) ?_
    refine gS 144 926 (by decide) L_144 (fun _ _ => mF_144) rfl X hw dX12_beginProof_9 h (fun v2 rv2 h => ?_)
    refine lv_bipush hx hb dX12_beginProof_12 (v := jI 40) rfl ?_
    refine k_icmp_ne hx hb rv2 (by decide) dX12_beginProof_14 (tgt := 23) rfl h (fun h => ?_) (fun h => ?_)
    · refine lv_aload_n hx hb dX12_beginProof_23 rfl (lv_at hl 0 rfl) ?_
      refine kcI (n := 0) (c_isStep h) G_isStep E_isStep X hw (Nat.le_trans (Nat.le_of_ble_eq_true rfl) hRf) (Nat.le_trans (Nat.le_of_ble_eq_true rfl) hRl) rfl hl.1 (Nat.le_of_ble_eq_true rfl) rfl dX12_beginProof_24 (fun v3 u H locs rv3 h hw => ?_)
      refine k_if_ne hx hb rv3 dX12_beginProof_27 (tgt := 31) rfl h (fun h => ?_) (fun h => ?_)
      · refine lv_aload_n hx hb dX12_beginProof_31 rfl (lv_at hl 0 rfl) ?_
        refine lv_iload_n hx hb dX12_beginProof_32 rfl (lv_at hl 1 rfl) ?_
        refine kcI (n := 1) (c_isForm ra0 h) G_isForm E_isForm X hw (Nat.le_trans (Nat.le_of_ble_eq_true rfl) hRf) (Nat.le_trans (Nat.le_of_ble_eq_true rfl) hRl) rfl hl.1 (Nat.le_of_ble_eq_true rfl) rfl dX12_beginProof_33 (fun v4 u H locs rv4 h hw => ?_)
        refine k_if_ne hx hb rv4 dX12_beginProof_36 (tgt := 45) rfl h (fun h => ?_) (fun h => ?_)
        · refine lv_aload_n hx hb dX12_beginProof_45 rfl (lv_at hl 0 rfl) ?_
          refine gA 141 290 (by decide) L_141 (fun _ _ => mF_141) rfl X hw dX12_beginProof_46 ?_
          refine lv_aload_n hx hb dX12_beginProof_49 rfl (lv_at hl 0 rfl) ?_
          refine gS 144 926 (by decide) L_144 (fun _ _ => mF_144) rfl X hw dX12_beginProof_50 h (fun v5 rv5 h => ?_)
          refine lv_iload_n hx hb dX12_beginProof_53 rfl (lv_at hl 1 rfl) ?_
          refine aS 141 89 88 40 (fun _ _ _ _ => mG_141) (fun _ => rfl) (fun _ _ _ _ _ _ => mSA_141) (by decide) X hw rv5 ra0 dX12_beginProof_54 rfl h (fun H locs u hw h => ?_)
          refine lv_aload_n hx hb dX12_beginProof_55 rfl (lv_at hl 0 rfl) ?_
          refine gA 142 293 (by decide) L_142 (fun _ _ => mF_142) rfl X hw dX12_beginProof_56 ?_
          refine lv_aload_n hx hb dX12_beginProof_59 rfl (lv_at hl 0 rfl) ?_
          refine gS 144 926 (by decide) L_144 (fun _ _ => mF_144) rfl X hw dX12_beginProof_60 h (fun v6 rv6 h => ?_)
          refine lv_aload_n hx hb dX12_beginProof_63 rfl (lv_at hl 0 rfl) ?_
          refine gA 0 8 (by decide) L_0 (fun _ _ => mF_0) rfl X hw dX12_beginProof_64 ?_
          refine lv_iload_n hx hb dX12_beginProof_67 rfl (lv_at hl 1 rfl) ?_
          refine aL 0 1 0 452000 (fun _ _ _ _ => mG_0) (fun _ => rfl) X hw ra0 dX12_beginProof_68 rfl h (fun v7 rv7 h => ?_)
          refine kcT (n := 1) (c_partsFrom rv7 h) G_partsFrom E_partsFrom X hw (Nat.le_trans (Nat.le_of_ble_eq_true rfl) hRf) (Nat.le_trans (Nat.le_of_ble_eq_true rfl) hRl) rfl hl.1 (Nat.le_of_ble_eq_true rfl) rfl dX12_beginProof_69 (fun v8 u H locs rv8 h hw => ?_)
          refine aS 142 90 89 40 (fun _ _ _ _ => mG_142) (fun _ => rfl) (fun _ _ _ _ _ _ => mSA_142) (by decide) X hw rv6 rv8 dX12_beginProof_72 rfl h (fun H locs u hw h => ?_)
          refine lv_aload_n hx hb dX12_beginProof_73 rfl (lv_at hl 0 rfl) ?_
          refine gA 143 296 (by decide) L_143 (fun _ _ => mF_143) rfl X hw dX12_beginProof_74 ?_
          refine lv_aload_n hx hb dX12_beginProof_77 rfl (lv_at hl 0 rfl) ?_
          refine gS 144 926 (by decide) L_144 (fun _ _ => mF_144) rfl X hw dX12_beginProof_78 h (fun v9 rv9 h => ?_)
          refine lv_aload_n hx hb dX12_beginProof_81 rfl (lv_at hl 0 rfl) ?_
          refine gS 147 938 (by decide) L_147 (fun _ _ => mF_147) rfl X hw dX12_beginProof_82 h (fun v10 rv10 h => ?_)
          refine aS 143 91 90 40 (fun _ _ _ _ => mG_143) (fun _ => rfl) (fun _ _ _ _ _ _ => mSA_143) (by decide) X hw rv9 rv10 dX12_beginProof_85 rfl h (fun H locs u hw h => ?_)
          refine lv_aload_n hx hb dX12_beginProof_86 rfl (lv_at hl 0 rfl) ?_
          refine lv_dup hx hb dX12_beginProof_87 rfl ?_
          refine gS 144 926 (by decide) L_144 (fun _ _ => mF_144) rfl X hw dX12_beginProof_88 h (fun v11 rv11 h => ?_)
          refine lv_iconst hx hb dX12_beginProof_91 (v := jI 1) rfl ?_
          refine k_iadd hx hb dX12_beginProof_92 h (fun r12 h => ?_)
          refine pS 144 926 (by decide) L_144 rfl rfl rfl (fun _ _ _ _ _ => mSI_144) (by decide) X hw r12 dX12_beginProof_93 h (fun H locs u hw h => ?_)
          exact hret _ _ _ _ _ h hw dX12_beginProof_96
        · refine lv_aload_n hx hb dX12_beginProof_39 rfl (lv_at hl 0 rfl) ?_
          refine lv_iload_n hx hb dX12_beginProof_40 rfl (lv_at hl 1 rfl) ?_
          refine pS 148 932 (by decide) L_148 rfl rfl rfl (fun _ _ _ _ _ => mSI_148) (by decide) X hw ra0 dX12_beginProof_41 h (fun H locs u hw h => ?_)
          exact hret _ _ _ _ _ h hw dX12_beginProof_44
      · exact hret _ _ _ _ _ h hw dX12_beginProof_30
    · refine lv_aload_n hx hb dX12_beginProof_17 rfl (lv_at hl 0 rfl) ?_
      refine lv_iconst hx hb dX12_beginProof_18 (v := jI 2) rfl ?_
      refine kcV (n := 1) (c_fail (by decide) h) G_fail E_fail X hw (Nat.le_trans (Nat.le_of_ble_eq_true rfl) hRf) (Nat.le_trans (Nat.le_of_ble_eq_true rfl) hRl) rfl hl.1 (Nat.le_of_ble_eq_true rfl) rfl dX12_beginProof_19 (fun u H locs h hw => ?_)
      exact hret _ _ _ _ _ h hw dX12_beginProof_22
  · exact hret _ _ _ _ _ h hw dX12_beginProof_7

end
theorem c_beginProof {l : Launch} {a0 : Int} (ra0 : inR a0) {Q : iST → Prop} {u : iST} (h : w_beginProof a0 Q u) : kMV l yX12_beginProof (.code yX12_beginProof cX12_beginProof 2 none :: wsM) { frames := 10, cells := 0, slots := 0, locals := 227 } [.int (jI a0)] Q u := kMV_of rfl (fun _ => Nat.le_of_ble_eq_true rfl) (fun X hRf hRl hret hw hl => b_beginProof_s X hRf hRl hret ra0 hw hl h)

/-! pour -/
theorem dX12_pour_0 : decode cX12_pour 0 = .ok (.iconst 0, 1) := by decide +kernel
theorem dX12_pour_1 : decode cX12_pour 1 = .ok (.istore_n 3, 1) := by decide +kernel
theorem dX12_pour_2 : decode cX12_pour 2 = .ok (.iload_n 3, 1) := by decide +kernel
theorem dX12_pour_3 : decode cX12_pour 3 = .ok (.aload_n 0, 1) := by decide +kernel
theorem dX12_pour_4 : decode cX12_pour 4 = .ok (.getfield 302, 3) := by decide +kernel
theorem dX12_pour_7 : decode cX12_pour 7 = .ok (.iload_n 1, 1) := by decide +kernel
theorem dX12_pour_8 : decode cX12_pour 8 = .ok (.iaload, 1) := by decide +kernel
theorem dX12_pour_9 : decode cX12_pour 9 = .ok (.if_icmp .ge 39, 3) := by decide +kernel
theorem dX12_pour_12 : decode cX12_pour 12 = .ok (.aload_n 0, 1) := by decide +kernel
theorem dX12_pour_13 : decode cX12_pour 13 = .ok (.getfield 299, 3) := by decide +kernel
theorem dX12_pour_16 : decode cX12_pour 16 = .ok (.bipush 30, 2) := by decide +kernel
theorem dX12_pour_18 : decode cX12_pour 18 = .ok (.iload_n 1, 1) := by decide +kernel
theorem dX12_pour_19 : decode cX12_pour 19 = .ok (.imul, 1) := by decide +kernel
theorem dX12_pour_20 : decode cX12_pour 20 = .ok (.iload_n 3, 1) := by decide +kernel
theorem dX12_pour_21 : decode cX12_pour 21 = .ok (.iadd, 1) := by decide +kernel
theorem dX12_pour_22 : decode cX12_pour 22 = .ok (.iaload, 1) := by decide +kernel
theorem dX12_pour_23 : decode cX12_pour 23 = .ok (.iload_n 2, 1) := by decide +kernel
theorem dX12_pour_24 : decode cX12_pour 24 = .ok (.if_icmp .eq 18, 3) := by decide +kernel
theorem dX12_pour_27 : decode cX12_pour 27 = .ok (.aload_n 0, 1) := by decide +kernel
theorem dX12_pour_28 : decode cX12_pour 28 = .ok (.aload_n 0, 1) := by decide +kernel
theorem dX12_pour_29 : decode cX12_pour 29 = .ok (.getfield 299, 3) := by decide +kernel
theorem dX12_pour_32 : decode cX12_pour 32 = .ok (.bipush 30, 2) := by decide +kernel
theorem dX12_pour_34 : decode cX12_pour 34 = .ok (.iload_n 1, 1) := by decide +kernel
theorem dX12_pour_35 : decode cX12_pour 35 = .ok (.imul, 1) := by decide +kernel
theorem dX12_pour_36 : decode cX12_pour 36 = .ok (.iload_n 3, 1) := by decide +kernel
theorem dX12_pour_37 : decode cX12_pour 37 = .ok (.iadd, 1) := by decide +kernel
theorem dX12_pour_38 : decode cX12_pour 38 = .ok (.iaload, 1) := by decide +kernel
theorem dX12_pour_39 : decode cX12_pour 39 = .ok (.invokevirtual 739, 3) := by decide +kernel
theorem dX12_pour_42 : decode cX12_pour 42 = .ok (.iinc 3 1, 3) := by decide +kernel
theorem dX12_pour_45 : decode cX12_pour 45 = .ok (.goto (-43), 3) := by decide +kernel
theorem dX12_pour_48 : decode cX12_pour 48 = .ok (.return_, 1) := by decide +kernel

section
variable {p : Program} {l : Launch} {e : Env} {R : Room} {s : State} {m : MethodId} {args : Array Value} {below : List Frame} {meth : Method} {c : Code} {H : Heap} {locs : List Loc} {Qf : State → Prop}
variable {ls : Array Slot} {D : va_G} {ca : Nat → ClassId} {A : Nat → Prop} {h0 : Nat} {ad : Nat → Nat} {H0 : Heap} {u : iST}
def w_pour_2b (R2 : Int → Int → Int → iST → Prop) (Q : iST → Prop) (x1 : Int) (x2 : Int) (x3 : Int) (u : iST) : Prop :=
  bd x1 350 (rd (u.2.1 146 x1) (fun v1 => 
  br (v1 ≤ x3) (
    Q u) (
    ov (30 * x1) (
    ov ((30 * x1) + x3) (
    bd ((30 * x1) + x3) 10500 (rd (u.2.1 145 ((30 * x1) + x3)) (fun v4 => 
    br (v4 = x2) (
      ov (x3 + 1) (
      R2 x1 x2 (x3 + 1) u)) (
      ov (30 * x1) (
      ov ((30 * x1) + x3) (
      bd ((30 * x1) + x3) 10500 (rd (u.2.1 145 ((30 * x1) + x3)) (fun v8 => 
      w_put v8 (fun u => 
      ov (x3 + 1) (
      R2 x1 x2 (x3 + 1) u)) u))))))))))))
def w_pour_2 (Q : iST → Prop) (x1 : Int) (x2 : Int) (x3 : Int) (u : iST) : Prop := ∀ R2 : Int → Int → Int → iST → Prop, (∀ (x1 : Int) (x2 : Int) (x3 : Int) (u : iST), w_pour_2b R2 Q x1 x2 x3 u → R2 x1 x2 x3 u) → R2 x1 x2 x3 u
set_option maxRecDepth 20000 in
set_option maxHeartbeats 4000000 in
theorem b_pour_2 (X : kX p m c cX12_pour 4 s args D ca) (hRf : 1 ≤ R.frames) (hRl : 22 ≤ R.locals) {Q : iST → Prop} (hret : ∀ (u : iST) (H : Heap) (locs : List Loc) (ls : Array Slot) (pc : Nat), Q u → kW D ca A h0 ad H0 H locs u → decode cX12_pour pc = .ok (.return_, 1) → W p l e R s m args below meth c H locs 0 0 Qf (F0 m pc ls [])) {x1 x2 x3 : Int} (rx1 : inR x1) (rx2 : inR x2) (rx3 : inR x3) (hw : kW D ca A h0 ad H0 H locs u) (hl : lv_has ls 4 [(0, .ref h0), (1, .int (jI x1)), (2, .int (jI x2)), (3, .int (jI x3))]) (h : w_pour_2 Q x1 x2 x3 u) : W p l e R s m args below meth c H locs 0 0 Qf (F0 m 2 ls []) := by
  refine h (fun x1 x2 x3 u => ∀ (H : Heap) (locs : List Loc) (ls : Array Slot), inR x1 → inR x2 → inR x3 → kW D ca A h0 ad H0 H locs u → lv_has ls 4 [(0, .ref h0), (1, .int (jI x1)), (2, .int (jI x2)), (3, .int (jI x3))] → W p l e R s m args below meth c H locs 0 0 Qf (F0 m 2 ls [])) ?_ H locs ls rx1 rx2 rx3 hw hl
  clear h hl hw rx1 rx2 rx3
  intro x1 x2 x3 u h H locs ls rx1 rx2 rx3 hw hl
  have hR2 : ∀ (x1 : Int) (x2 : Int) (x3 : Int) (u : iST) (H : Heap) (locs : List Loc) (ls : Array Slot), inR x1 → inR x2 → inR x3 → kW D ca A h0 ad H0 H locs u → lv_has ls 4 [(0, .ref h0), (1, .int (jI x1)), (2, .int (jI x2)), (3, .int (jI x3))] → (fun (x1 : Int) (x2 : Int) (x3 : Int) u => ∀ (H : Heap) (locs : List Loc) (ls : Array Slot), inR x1 → inR x2 → inR x3 → kW D ca A h0 ad H0 H locs u → lv_has ls 4 [(0, .ref h0), (1, .int (jI x1)), (2, .int (jI x2)), (3, .int (jI x3))] → W p l e R s m args below meth c H locs 0 0 Qf (F0 m 2 ls [])) x1 x2 x3 u → W p l e R s m args below meth c H locs 0 0 Qf (F0 m 2 ls []) := fun x1 x2 x3 u H locs ls rx1 rx2 rx3 hw hl h => h H locs ls rx1 rx2 rx3 hw hl
  have hx := X.1.1
  have hb := X.1.2.1
  unfold w_pour_2b at h
  refine lv_iload_n hx hb dX12_pour_2 rfl (lv_at hl 3 rfl) ?_
  refine lv_aload_n hx hb dX12_pour_3 rfl (lv_at hl 0 rfl) ?_
  refine gA 146 302 (by decide) L_146 (fun _ _ => mF_146) rfl X hw dX12_pour_4 ?_
  refine lv_iload_n hx hb dX12_pour_7 rfl (lv_at hl 1 rfl) ?_
  refine aL 146 93 92 350 (fun _ _ _ _ => mG_146) (fun _ => rfl) X hw rx1 dX12_pour_8 rfl h (fun v1 rv1 h => ?_)
  refine k_icmp_ge hx hb rx3 rv1 dX12_pour_9 (tgt := 48) rfl h (fun h => ?_) (fun h => ?_)
  · exact hret _ _ _ _ _ h hw dX12_pour_48
  · refine lv_aload_n hx hb dX12_pour_12 rfl (lv_at hl 0 rfl) ?_
    refine gA 145 299 (by decide) L_145 (fun _ _ => mF_145) rfl X hw dX12_pour_13 ?_
    refine lv_bipush hx hb dX12_pour_16 (v := jI 30) rfl ?_
    refine lv_iload_n hx hb dX12_pour_18 rfl (lv_at hl 1 rfl) ?_
    refine k_imul hx hb dX12_pour_19 h (fun r2 h => ?_)
    refine lv_iload_n hx hb dX12_pour_20 rfl (lv_at hl 3 rfl) ?_
    refine k_iadd hx hb dX12_pour_21 h (fun r3 h => ?_)
    refine aL 145 92 91 10500 (fun _ _ _ _ => mG_145) (fun _ => rfl) X hw r3 dX12_pour_22 rfl h (fun v4 rv4 h => ?_)
    refine lv_iload_n hx hb dX12_pour_23 rfl (lv_at hl 2 rfl) ?_
    refine k_icmp_eq hx hb rv4 rx2 dX12_pour_24 (tgt := 42) rfl h (fun h => ?_) (fun h => ?_)
    · refine k_iinc (k := 3) hx hb dX12_pour_42 hl rfl (by decide) rfl h (fun ls r5 h hl => ?_)
      have hl : lv_has ls 4 [(3, .int (jI (x3 + 1))), (0, .ref (h0)), (1, .int (jI x1)), (2, .int (jI x2))] := hl
      refine lv_goto hx hb dX12_pour_45 (tgt := 2) rfl ?_
      exact hR2 _ _ _ _ H locs ls rx1 rx2 r5 hw (lv_sub hl [1, 2, 3, 0] rfl) h
    · refine lv_aload_n hx hb dX12_pour_27 rfl (lv_at hl 0 rfl) ?_
      refine lv_aload_n hx hb dX12_pour_28 rfl (lv_at hl 0 rfl) ?_
      refine gA 145 299 (by decide) L_145 (fun _ _ => mF_145) rfl X hw dX12_pour_29 ?_
      refine lv_bipush hx hb dX12_pour_32 (v := jI 30) rfl ?_
      refine lv_iload_n hx hb dX12_pour_34 rfl (lv_at hl 1 rfl) ?_
      refine k_imul hx hb dX12_pour_35 h (fun r6 h => ?_)
      refine lv_iload_n hx hb dX12_pour_36 rfl (lv_at hl 3 rfl) ?_
      refine k_iadd hx hb dX12_pour_37 h (fun r7 h => ?_)
      refine aL 145 92 91 10500 (fun _ _ _ _ => mG_145) (fun _ => rfl) X hw r7 dX12_pour_38 rfl h (fun v8 rv8 h => ?_)
      refine kcV (n := 1) (c_put rv8 h) G_put E_put X hw (Nat.le_trans (Nat.le_of_ble_eq_true rfl) hRf) (Nat.le_trans (Nat.le_of_ble_eq_true rfl) hRl) rfl hl.1 (Nat.le_of_ble_eq_true rfl) rfl dX12_pour_39 (fun u H locs h hw => ?_)
      refine k_iinc (k := 3) hx hb dX12_pour_42 hl rfl (by decide) rfl h (fun ls r10 h hl => ?_)
      have hl : lv_has ls 4 [(3, .int (jI (x3 + 1))), (0, .ref (h0)), (1, .int (jI x1)), (2, .int (jI x2))] := hl
      refine lv_goto hx hb dX12_pour_45 (tgt := 2) rfl ?_
      exact hR2 _ _ _ _ H locs ls rx1 rx2 r10 hw (lv_sub hl [1, 2, 3, 0] rfl) h

def w_pour (a0 : Int) (a1 : Int) (Q : iST → Prop) (u : iST) : Prop :=
  w_pour_2 Q a0 a1 0 u
set_option maxRecDepth 20000 in
set_option maxHeartbeats 4000000 in
theorem b_pour_s (X : kX p m c cX12_pour 4 s args D ca) (hRf : 1 ≤ R.frames) (hRl : 22 ≤ R.locals) {Q : iST → Prop} (hret : ∀ (u : iST) (H : Heap) (locs : List Loc) (ls : Array Slot) (pc : Nat), Q u → kW D ca A h0 ad H0 H locs u → decode cX12_pour pc = .ok (.return_, 1) → W p l e R s m args below meth c H locs 0 0 Qf (F0 m pc ls [])) {a0 a1 : Int} (ra0 : inR a0) (ra1 : inR a1) (hw : kW D ca A h0 ad H0 H locs u) (hl : lv_has ls 4 [(0, .ref h0), (1, .int (jI a0)), (2, .int (jI a1))]) (h : w_pour a0 a1 Q u) : W p l e R s m args below meth c H locs 0 0 Qf (F0 m 0 ls []) := by
  have hx := X.1.1
  have hb := X.1.2.1
  unfold w_pour at h
  refine lv_iconst hx hb dX12_pour_0 (v := jI 0) rfl ?_
  refine lv_istore_n hx hb dX12_pour_1 rfl hl (by decide) rfl (fun ls hl => ?_)
  have hl : lv_has ls 4 [(3, .int (jI 0)), (0, .ref (h0)), (1, .int (jI a0)), (2, .int (jI a1))] := hl
  exact b_pour_2 X hRf hRl hret ra0 ra1 (by decide) hw (lv_sub hl [1, 2, 3, 0] rfl) h

end
theorem c_pour {l : Launch} {a0 : Int} {a1 : Int} (ra0 : inR a0) (ra1 : inR a1) {Q : iST → Prop} {u : iST} (h : w_pour a0 a1 Q u) : kMV l yX12_pour (.code yX12_pour cX12_pour 4 none :: wsM) { frames := 1, cells := 0, slots := 0, locals := 22 } [.int (jI a0), .int (jI a1)] Q u := kMV_of rfl (fun _ => Nat.le_of_ble_eq_true rfl) (fun X hRf hRl hret hw hl => b_pour_s X hRf hRl hret ra0 ra1 hw hl h)

/-! has -/
theorem dX12_has_0 : decode cX12_has 0 = .ok (.iconst 0, 1) := by decide +kernel
theorem dX12_has_1 : decode cX12_has 1 = .ok (.istore_n 3, 1) := by decide +kernel
theorem dX12_has_2 : decode cX12_has 2 = .ok (.iload_n 3, 1) := by decide +kernel
theorem dX12_has_3 : decode cX12_has 3 = .ok (.aload_n 0, 1) := by decide +kernel
theorem dX12_has_4 : decode cX12_has 4 = .ok (.getfield 302, 3) := by decide +kernel
theorem dX12_has_7 : decode cX12_has 7 = .ok (.iload_n 1, 1) := by decide +kernel
theorem dX12_has_8 : decode cX12_has 8 = .ok (.iaload, 1) := by decide +kernel
theorem dX12_has_9 : decode cX12_has 9 = .ok (.if_icmp .ge 26, 3) := by decide +kernel
theorem dX12_has_12 : decode cX12_has 12 = .ok (.aload_n 0, 1) := by decide +kernel
theorem dX12_has_13 : decode cX12_has 13 = .ok (.getfield 299, 3) := by decide +kernel
theorem dX12_has_16 : decode cX12_has 16 = .ok (.bipush 30, 2) := by decide +kernel
theorem dX12_has_18 : decode cX12_has 18 = .ok (.iload_n 1, 1) := by decide +kernel
theorem dX12_has_19 : decode cX12_has 19 = .ok (.imul, 1) := by decide +kernel
theorem dX12_has_20 : decode cX12_has 20 = .ok (.iload_n 3, 1) := by decide +kernel
theorem dX12_has_21 : decode cX12_has 21 = .ok (.iadd, 1) := by decide +kernel
theorem dX12_has_22 : decode cX12_has 22 = .ok (.iaload, 1) := by decide +kernel
theorem dX12_has_23 : decode cX12_has 23 = .ok (.iload_n 2, 1) := by decide +kernel
theorem dX12_has_24 : decode cX12_has 24 = .ok (.if_icmp .ne 5, 3) := by decide +kernel
theorem dX12_has_27 : decode cX12_has 27 = .ok (.iconst 1, 1) := by decide +kernel
theorem dX12_has_28 : decode cX12_has 28 = .ok (.ireturn, 1) := by decide +kernel
theorem dX12_has_29 : decode cX12_has 29 = .ok (.iinc 3 1, 3) := by decide +kernel
theorem dX12_has_32 : decode cX12_has 32 = .ok (.goto (-30), 3) := by decide +kernel
theorem dX12_has_35 : decode cX12_has 35 = .ok (.iconst 0, 1) := by decide +kernel
theorem dX12_has_36 : decode cX12_has 36 = .ok (.ireturn, 1) := by decide +kernel

section
variable {p : Program} {l : Launch} {e : Env} {R : Room} {s : State} {m : MethodId} {args : Array Value} {below : List Frame} {meth : Method} {c : Code} {H : Heap} {locs : List Loc} {Qf : State → Prop}
variable {ls : Array Slot} {D : va_G} {ca : Nat → ClassId} {A : Nat → Prop} {h0 : Nat} {ad : Nat → Nat} {H0 : Heap} {u : iST}
def w_has_2b (R2 : Int → Int → Int → iST → Prop) (Q : Int → iST → Prop) (x1 : Int) (x2 : Int) (x3 : Int) (u : iST) : Prop :=
  bd x1 350 (rd (u.2.1 146 x1) (fun v1 => 
  br (v1 ≤ x3) (
    zt 0 (Q 0 u)) (
    ov (30 * x1) (
    ov ((30 * x1) + x3) (
    bd ((30 * x1) + x3) 10500 (rd (u.2.1 145 ((30 * x1) + x3)) (fun v4 => 
    br (v4 ≠ x2) (
      ov (x3 + 1) (
      R2 x1 x2 (x3 + 1) u)) (
      zt 1 (Q 1 u)))))))))
def w_has_2 (Q : Int → iST → Prop) (x1 : Int) (x2 : Int) (x3 : Int) (u : iST) : Prop := ∀ R2 : Int → Int → Int → iST → Prop, (∀ (x1 : Int) (x2 : Int) (x3 : Int) (u : iST), w_has_2b R2 Q x1 x2 x3 u → R2 x1 x2 x3 u) → R2 x1 x2 x3 u
set_option maxRecDepth 20000 in
set_option maxHeartbeats 4000000 in
theorem b_has_2 (X : kX p m c cX12_has 4 s args D ca) (hRf : 0 ≤ R.frames) (hRl : 0 ≤ R.locals) {Q : Int → iST → Prop} (hret : ∀ (v : Int) (u : iST) (H : Heap) (locs : List Loc) (ls : Array Slot) (pc : Nat), bz v → Q v u → kW D ca A h0 ad H0 H locs u → decode cX12_has pc = .ok (.ireturn, 1) → W p l e R s m args below meth c H locs 0 0 Qf (F0 m pc ls [.int (jI v)])) {x1 x2 x3 : Int} (rx1 : inR x1) (rx2 : inR x2) (rx3 : inR x3) (hw : kW D ca A h0 ad H0 H locs u) (hl : lv_has ls 4 [(0, .ref h0), (1, .int (jI x1)), (2, .int (jI x2)), (3, .int (jI x3))]) (h : w_has_2 Q x1 x2 x3 u) : W p l e R s m args below meth c H locs 0 0 Qf (F0 m 2 ls []) := by
  refine h (fun x1 x2 x3 u => ∀ (H : Heap) (locs : List Loc) (ls : Array Slot), inR x1 → inR x2 → inR x3 → kW D ca A h0 ad H0 H locs u → lv_has ls 4 [(0, .ref h0), (1, .int (jI x1)), (2, .int (jI x2)), (3, .int (jI x3))] → W p l e R s m args below meth c H locs 0 0 Qf (F0 m 2 ls [])) ?_ H locs ls rx1 rx2 rx3 hw hl
  clear h hl hw rx1 rx2 rx3
  intro x1 x2 x3 u h H locs ls rx1 rx2 rx3 hw hl
  have hR2 : ∀ (x1 : Int) (x2 : Int) (x3 : Int) (u : iST) (H : Heap) (locs : List Loc) (ls : Array Slot), inR x1 → inR x2 → inR x3 → kW D ca A h0 ad H0 H locs u → lv_has ls 4 [(0, .ref h0), (1, .int (jI x1)), (2, .int (jI x2)), (3, .int (jI x3))] → (fun (x1 : Int) (x2 : Int) (x3 : Int) u => ∀ (H : Heap) (locs : List Loc) (ls : Array Slot), inR x1 → inR x2 → inR x3 → kW D ca A h0 ad H0 H locs u → lv_has ls 4 [(0, .ref h0), (1, .int (jI x1)), (2, .int (jI x2)), (3, .int (jI x3))] → W p l e R s m args below meth c H locs 0 0 Qf (F0 m 2 ls [])) x1 x2 x3 u → W p l e R s m args below meth c H locs 0 0 Qf (F0 m 2 ls []) := fun x1 x2 x3 u H locs ls rx1 rx2 rx3 hw hl h => h H locs ls rx1 rx2 rx3 hw hl
  have hx := X.1.1
  have hb := X.1.2.1
  unfold w_has_2b at h
  refine lv_iload_n hx hb dX12_has_2 rfl (lv_at hl 3 rfl) ?_
  refine lv_aload_n hx hb dX12_has_3 rfl (lv_at hl 0 rfl) ?_
  refine gA 146 302 (by decide) L_146 (fun _ _ => mF_146) rfl X hw dX12_has_4 ?_
  refine lv_iload_n hx hb dX12_has_7 rfl (lv_at hl 1 rfl) ?_
  refine aL 146 93 92 350 (fun _ _ _ _ => mG_146) (fun _ => rfl) X hw rx1 dX12_has_8 rfl h (fun v1 rv1 h => ?_)
  refine k_icmp_ge hx hb rx3 rv1 dX12_has_9 (tgt := 35) rfl h (fun h => ?_) (fun h => ?_)
  · refine lv_iconst hx hb dX12_has_35 (v := jI 0) rfl ?_
    exact hret _ _ _ _ _ _ h.1 h.2 hw dX12_has_36
  · refine lv_aload_n hx hb dX12_has_12 rfl (lv_at hl 0 rfl) ?_
    refine gA 145 299 (by decide) L_145 (fun _ _ => mF_145) rfl X hw dX12_has_13 ?_
    refine lv_bipush hx hb dX12_has_16 (v := jI 30) rfl ?_
    refine lv_iload_n hx hb dX12_has_18 rfl (lv_at hl 1 rfl) ?_
    refine k_imul hx hb dX12_has_19 h (fun r2 h => ?_)
    refine lv_iload_n hx hb dX12_has_20 rfl (lv_at hl 3 rfl) ?_
    refine k_iadd hx hb dX12_has_21 h (fun r3 h => ?_)
    refine aL 145 92 91 10500 (fun _ _ _ _ => mG_145) (fun _ => rfl) X hw r3 dX12_has_22 rfl h (fun v4 rv4 h => ?_)
    refine lv_iload_n hx hb dX12_has_23 rfl (lv_at hl 2 rfl) ?_
    refine k_icmp_ne hx hb rv4 rx2 dX12_has_24 (tgt := 29) rfl h (fun h => ?_) (fun h => ?_)
    · refine k_iinc (k := 3) hx hb dX12_has_29 hl rfl (by decide) rfl h (fun ls r5 h hl => ?_)
      have hl : lv_has ls 4 [(3, .int (jI (x3 + 1))), (0, .ref (h0)), (1, .int (jI x1)), (2, .int (jI x2))] := hl
      refine lv_goto hx hb dX12_has_32 (tgt := 2) rfl ?_
      exact hR2 _ _ _ _ H locs ls rx1 rx2 r5 hw (lv_sub hl [1, 2, 3, 0] rfl) h
    · refine lv_iconst hx hb dX12_has_27 (v := jI 1) rfl ?_
      exact hret _ _ _ _ _ _ h.1 h.2 hw dX12_has_28

def w_has (a0 : Int) (a1 : Int) (Q : Int → iST → Prop) (u : iST) : Prop :=
  w_has_2 Q a0 a1 0 u
set_option maxRecDepth 20000 in
set_option maxHeartbeats 4000000 in
theorem b_has_s (X : kX p m c cX12_has 4 s args D ca) (hRf : 0 ≤ R.frames) (hRl : 0 ≤ R.locals) {Q : Int → iST → Prop} (hret : ∀ (v : Int) (u : iST) (H : Heap) (locs : List Loc) (ls : Array Slot) (pc : Nat), bz v → Q v u → kW D ca A h0 ad H0 H locs u → decode cX12_has pc = .ok (.ireturn, 1) → W p l e R s m args below meth c H locs 0 0 Qf (F0 m pc ls [.int (jI v)])) {a0 a1 : Int} (ra0 : inR a0) (ra1 : inR a1) (hw : kW D ca A h0 ad H0 H locs u) (hl : lv_has ls 4 [(0, .ref h0), (1, .int (jI a0)), (2, .int (jI a1))]) (h : w_has a0 a1 Q u) : W p l e R s m args below meth c H locs 0 0 Qf (F0 m 0 ls []) := by
  have hx := X.1.1
  have hb := X.1.2.1
  unfold w_has at h
  refine lv_iconst hx hb dX12_has_0 (v := jI 0) rfl ?_
  refine lv_istore_n hx hb dX12_has_1 rfl hl (by decide) rfl (fun ls hl => ?_)
  have hl : lv_has ls 4 [(3, .int (jI 0)), (0, .ref (h0)), (1, .int (jI a0)), (2, .int (jI a1))] := hl
  exact b_has_2 X hRf hRl hret ra0 ra1 (by decide) hw (lv_sub hl [1, 2, 3, 0] rfl) h

end
theorem c_has {l : Launch} {a0 : Int} {a1 : Int} (ra0 : inR a0) (ra1 : inR a1) {Q : Int → iST → Prop} {u : iST} (h : w_has a0 a1 Q u) : kMI l yX12_has (.code yX12_has cX12_has 4 (some .boolean) :: wsM) { frames := 0, cells := 0, slots := 0, locals := 0 } [.int (jI a0), .int (jI a1)] Q u := kMZ_of rfl (fun _ => Nat.le_of_ble_eq_true rfl) (fun X hRf hRl hret hw hl => b_has_s X hRf hRl hret ra0 ra1 hw hl h)

/-! beginsEqual -/
theorem dX12_beginsEqual_0 : decode cX12_beginsEqual 0 = .ok (.aload_n 0, 1) := by decide +kernel
theorem dX12_beginsEqual_1 : decode cX12_beginsEqual 1 = .ok (.getfield 302, 3) := by decide +kernel
theorem dX12_beginsEqual_4 : decode cX12_beginsEqual 4 = .ok (.iload_n 1, 1) := by decide +kernel
theorem dX12_beginsEqual_5 : decode cX12_beginsEqual 5 = .ok (.iaload, 1) := by decide +kernel
theorem dX12_beginsEqual_6 : decode cX12_beginsEqual 6 = .ok (.ifCond .le 24, 3) := by decide +kernel
theorem dX12_beginsEqual_9 : decode cX12_beginsEqual 9 = .ok (.aload_n 0, 1) := by decide +kernel
theorem dX12_beginsEqual_10 : decode cX12_beginsEqual 10 = .ok (.aload_n 0, 1) := by decide +kernel
theorem dX12_beginsEqual_11 : decode cX12_beginsEqual 11 = .ok (.getfield 299, 3) := by decide +kernel
theorem dX12_beginsEqual_14 : decode cX12_beginsEqual 14 = .ok (.bipush 30, 2) := by decide +kernel
theorem dX12_beginsEqual_16 : decode cX12_beginsEqual 16 = .ok (.iload_n 1, 1) := by decide +kernel
theorem dX12_beginsEqual_17 : decode cX12_beginsEqual 17 = .ok (.imul, 1) := by decide +kernel
theorem dX12_beginsEqual_18 : decode cX12_beginsEqual 18 = .ok (.iaload, 1) := by decide +kernel
theorem dX12_beginsEqual_19 : decode cX12_beginsEqual 19 = .ok (.iconst 4, 1) := by decide +kernel
theorem dX12_beginsEqual_20 : decode cX12_beginsEqual 20 = .ok (.invokevirtual 542, 3) := by decide +kernel
theorem dX12_beginsEqual_23 : decode cX12_beginsEqual 23 = .ok (.ifCond .eq 7, 3) := by decide +kernel
theorem dX12_beginsEqual_26 : decode cX12_beginsEqual 26 = .ok (.iconst 1, 1) := by decide +kernel
theorem dX12_beginsEqual_27 : decode cX12_beginsEqual 27 = .ok (.goto 4, 3) := by decide +kernel
theorem dX12_beginsEqual_30 : decode cX12_beginsEqual 30 = .ok (.iconst 0, 1) := by decide +kernel
theorem dX12_beginsEqual_31 : decode cX12_beginsEqual 31 = .ok (.ireturn, 1) := by decide +kernel

section
variable {p : Program} {l : Launch} {e : Env} {R : Room} {s : State} {m : MethodId} {args : Array Value} {below : List Frame} {meth : Method} {c : Code} {H : Heap} {locs : List Loc} {Qf : State → Prop}
variable {ls : Array Slot} {D : va_G} {ca : Nat → ClassId} {A : Nat → Prop} {h0 : Nat} {ad : Nat → Nat} {H0 : Heap} {u : iST}
def w_beginsEqual (a0 : Int) (Q : Int → iST → Prop) (u : iST) : Prop :=
  bd a0 350 (rd (u.2.1 146 a0) (fun v1 => 
  br (v1 ≤ 0) (
    zt 0 (Q 0 u)) (
    ov (30 * a0) (
    bd (30 * a0) 10500 (rd (u.2.1 145 (30 * a0)) (fun v3 => 
    w_isCallOf v3 4 (fun v4 u => 
    br (v4 = 0) (
      zt 0 (Q 0 u)) (
      zt 1 (Q 1 u))) u))))))
set_option maxRecDepth 20000 in
set_option maxHeartbeats 4000000 in
theorem b_beginsEqual_s (X : kX p m c cX12_beginsEqual 2 s args D ca) (hRf : 2 ≤ R.frames) (hRl : 43 ≤ R.locals) {Q : Int → iST → Prop} (hret : ∀ (v : Int) (u : iST) (H : Heap) (locs : List Loc) (ls : Array Slot) (pc : Nat), bz v → Q v u → kW D ca A h0 ad H0 H locs u → decode cX12_beginsEqual pc = .ok (.ireturn, 1) → W p l e R s m args below meth c H locs 0 0 Qf (F0 m pc ls [.int (jI v)])) {a0 : Int} (ra0 : inR a0) (hw : kW D ca A h0 ad H0 H locs u) (hl : lv_has ls 2 [(0, .ref h0), (1, .int (jI a0))]) (h : w_beginsEqual a0 Q u) : W p l e R s m args below meth c H locs 0 0 Qf (F0 m 0 ls []) := by
  have hx := X.1.1
  have hb := X.1.2.1
  unfold w_beginsEqual at h
  refine lv_aload_n hx hb dX12_beginsEqual_0 rfl (lv_at hl 0 rfl) ?_
  refine gA 146 302 (by decide) L_146 (fun _ _ => mF_146) rfl X hw dX12_beginsEqual_1 ?_
  refine lv_iload_n hx hb dX12_beginsEqual_4 rfl (lv_at hl 1 rfl) ?_
  refine aL 146 93 92 350 (fun _ _ _ _ => mG_146) (fun _ => rfl) X hw ra0 dX12_beginsEqual_5 rfl h (fun v1 rv1 h => ?_)
  refine k_if_le hx hb rv1 dX12_beginsEqual_6 (tgt := 30) rfl h (fun h => ?_) (fun h => ?_)
  · refine lv_iconst hx hb dX12_beginsEqual_30 (v := jI 0) rfl ?_
    exact hret _ _ _ _ _ _ h.1 h.2 hw dX12_beginsEqual_31
  · refine lv_aload_n hx hb dX12_beginsEqual_9 rfl (lv_at hl 0 rfl) ?_
    refine lv_aload_n hx hb dX12_beginsEqual_10 rfl (lv_at hl 0 rfl) ?_
    refine gA 145 299 (by decide) L_145 (fun _ _ => mF_145) rfl X hw dX12_beginsEqual_11 ?_
    refine lv_bipush hx hb dX12_beginsEqual_14 (v := jI 30) rfl ?_
    refine lv_iload_n hx hb dX12_beginsEqual_16 rfl (lv_at hl 1 rfl) ?_
    refine k_imul hx hb dX12_beginsEqual_17 h (fun r2 h => ?_)
    refine aL 145 92 91 10500 (fun _ _ _ _ => mG_145) (fun _ => rfl) X hw r2 dX12_beginsEqual_18 rfl h (fun v3 rv3 h => ?_)
    refine lv_iconst hx hb dX12_beginsEqual_19 (v := jI 4) rfl ?_
    refine kcI (n := 2) (c_isCallOf rv3 (by decide) h) G_isCallOf E_isCallOf X hw (Nat.le_trans (Nat.le_of_ble_eq_true rfl) hRf) (Nat.le_trans (Nat.le_of_ble_eq_true rfl) hRl) rfl hl.1 (Nat.le_of_ble_eq_true rfl) rfl dX12_beginsEqual_20 (fun v4 u H locs rv4 h hw => ?_)
    refine k_if_eq hx hb rv4 dX12_beginsEqual_23 (tgt := 30) rfl h (fun h => ?_) (fun h => ?_)
    · refine lv_iconst hx hb dX12_beginsEqual_30 (v := jI 0) rfl ?_
      exact hret _ _ _ _ _ _ h.1 h.2 hw dX12_beginsEqual_31
    · refine lv_iconst hx hb dX12_beginsEqual_26 (v := jI 1) rfl ?_
      refine lv_goto hx hb dX12_beginsEqual_27 (tgt := 31) rfl ?_
      exact hret _ _ _ _ _ _ h.1 h.2 hw dX12_beginsEqual_31

end
theorem c_beginsEqual {l : Launch} {a0 : Int} (ra0 : inR a0) {Q : Int → iST → Prop} {u : iST} (h : w_beginsEqual a0 Q u) : kMI l yX12_beginsEqual (.code yX12_beginsEqual cX12_beginsEqual 2 (some .boolean) :: wsM) { frames := 2, cells := 0, slots := 0, locals := 43 } [.int (jI a0)] Q u := kMZ_of rfl (fun _ => Nat.le_of_ble_eq_true rfl) (fun X hRf hRl hret hw hl => b_beginsEqual_s X hRf hRl hret ra0 hw hl h)

/-! defined -/
theorem dX12_defined_0 : decode cX12_defined 0 = .ok (.aload_n 0, 1) := by decide +kernel
theorem dX12_defined_1 : decode cX12_defined 1 = .ok (.getfield 486, 3) := by decide +kernel
theorem dX12_defined_4 : decode cX12_defined 4 = .ok (.istore_n 2, 1) := by decide +kernel
theorem dX12_defined_5 : decode cX12_defined 5 = .ok (.iconst 0, 1) := by decide +kernel
theorem dX12_defined_6 : decode cX12_defined 6 = .ok (.istore_n 3, 1) := by decide +kernel
theorem dX12_defined_7 : decode cX12_defined 7 = .ok (.iload_n 3, 1) := by decide +kernel
theorem dX12_defined_8 : decode cX12_defined 8 = .ok (.aload_n 0, 1) := by decide +kernel
theorem dX12_defined_9 : decode cX12_defined 9 = .ok (.getfield 81, 3) := by decide +kernel
theorem dX12_defined_12 : decode cX12_defined 12 = .ok (.iload_n 1, 1) := by decide +kernel
theorem dX12_defined_13 : decode cX12_defined 13 = .ok (.iaload, 1) := by decide +kernel
theorem dX12_defined_14 : decode cX12_defined 14 = .ok (.if_icmp .ge 24, 3) := by decide +kernel
theorem dX12_defined_17 : decode cX12_defined 17 = .ok (.aload_n 0, 1) := by decide +kernel
theorem dX12_defined_18 : decode cX12_defined 18 = .ok (.aload_n 0, 1) := by decide +kernel
theorem dX12_defined_19 : decode cX12_defined 19 = .ok (.getfield 84, 3) := by decide +kernel
theorem dX12_defined_22 : decode cX12_defined 22 = .ok (.bipush 6, 2) := by decide +kernel
theorem dX12_defined_24 : decode cX12_defined 24 = .ok (.iload_n 1, 1) := by decide +kernel
theorem dX12_defined_25 : decode cX12_defined 25 = .ok (.imul, 1) := by decide +kernel
theorem dX12_defined_26 : decode cX12_defined 26 = .ok (.iload_n 3, 1) := by decide +kernel
theorem dX12_defined_27 : decode cX12_defined 27 = .ok (.iadd, 1) := by decide +kernel
theorem dX12_defined_28 : decode cX12_defined 28 = .ok (.iaload, 1) := by decide +kernel
theorem dX12_defined_29 : decode cX12_defined 29 = .ok (.invokevirtual 498, 3) := by decide +kernel
theorem dX12_defined_32 : decode cX12_defined 32 = .ok (.iinc 3 1, 3) := by decide +kernel
theorem dX12_defined_35 : decode cX12_defined 35 = .ok (.goto (-28), 3) := by decide +kernel
theorem dX12_defined_38 : decode cX12_defined 38 = .ok (.aload_n 0, 1) := by decide +kernel
theorem dX12_defined_39 : decode cX12_defined 39 = .ok (.aload_n 0, 1) := by decide +kernel
theorem dX12_defined_40 : decode cX12_defined 40 = .ok (.getfield 78, 3) := by decide +kernel
theorem dX12_defined_43 : decode cX12_defined 43 = .ok (.iload_n 1, 1) := by decide +kernel
theorem dX12_defined_44 : decode cX12_defined 44 = .ok (.iaload, 1) := by decide +kernel
theorem dX12_defined_45 : decode cX12_defined 45 = .ok (.iload_n 2, 1) := by decide +kernel
theorem dX12_defined_46 : decode cX12_defined 46 = .ok (.invokevirtual 514, 3) := by decide +kernel
theorem dX12_defined_49 : decode cX12_defined 49 = .ok (.istore_n 3, 1) := by decide +kernel
theorem dX12_defined_50 : decode cX12_defined 50 = .ok (.aload_n 0, 1) := by decide +kernel
theorem dX12_defined_51 : decode cX12_defined 51 = .ok (.iload_n 2, 1) := by decide +kernel
theorem dX12_defined_52 : decode cX12_defined 52 = .ok (.putfield 486, 3) := by decide +kernel
theorem dX12_defined_55 : decode cX12_defined 55 = .ok (.aload_n 0, 1) := by decide +kernel
theorem dX12_defined_56 : decode cX12_defined 56 = .ok (.aload_n 0, 1) := by decide +kernel
theorem dX12_defined_57 : decode cX12_defined 57 = .ok (.iconst 4, 1) := by decide +kernel
theorem dX12_defined_58 : decode cX12_defined 58 = .ok (.iload_n 3, 1) := by decide +kernel
theorem dX12_defined_59 : decode cX12_defined 59 = .ok (.aload_n 0, 1) := by decide +kernel
theorem dX12_defined_60 : decode cX12_defined 60 = .ok (.getfield 87, 3) := by decide +kernel
theorem dX12_defined_63 : decode cX12_defined 63 = .ok (.iload_n 1, 1) := by decide +kernel
theorem dX12_defined_64 : decode cX12_defined 64 = .ok (.iaload, 1) := by decide +kernel
theorem dX12_defined_65 : decode cX12_defined 65 = .ok (.invokevirtual 693, 3) := by decide +kernel
theorem dX12_defined_68 : decode cX12_defined 68 = .ok (.invokevirtual 739, 3) := by decide +kernel
theorem dX12_defined_71 : decode cX12_defined 71 = .ok (.return_, 1) := by decide +kernel

section
variable {p : Program} {l : Launch} {e : Env} {R : Room} {s : State} {m : MethodId} {args : Array Value} {below : List Frame} {meth : Method} {c : Code} {H : Heap} {locs : List Loc} {Qf : State → Prop}
variable {ls : Array Slot} {D : va_G} {ca : Nat → ClassId} {A : Nat → Prop} {h0 : Nat} {ad : Nat → Nat} {H0 : Heap} {u : iST}
def w_defined_7b (R7 : Int → Int → Int → iST → Prop) (Q : iST → Prop) (x1 : Int) (x2 : Int) (x3 : Int) (u : iST) : Prop :=
  bd x1 40 (rd (u.2.1 37 x1) (fun v2 => 
  br (v2 ≤ x3) (
    bd x1 40 (rd (u.2.1 36 x1) (fun v3 => 
    w_callFrom v3 x2 (fun v4 u => 
    sw (iI u 71 x2) (fun u => 
    bd x1 40 (rd (u.2.1 39 x1) (fun v5 => 
    w_made2 4 v4 v5 (fun v6 u => 
    w_put v6 (fun u => 
    Q u) u) u)))) u))) (
    ov (6 * x1) (
    ov ((6 * x1) + x3) (
    bd ((6 * x1) + x3) 240 (rd (u.2.1 38 ((6 * x1) + x3)) (fun v10 => 
    w_build v10 (fun u => 
    ov (x3 + 1) (
    R7 x1 x2 (x3 + 1) u)) u)))))))
def w_defined_7 (Q : iST → Prop) (x1 : Int) (x2 : Int) (x3 : Int) (u : iST) : Prop := ∀ R7 : Int → Int → Int → iST → Prop, (∀ (x1 : Int) (x2 : Int) (x3 : Int) (u : iST), w_defined_7b R7 Q x1 x2 x3 u → R7 x1 x2 x3 u) → R7 x1 x2 x3 u
set_option maxRecDepth 20000 in
set_option maxHeartbeats 4000000 in
theorem b_defined_7 (X : kX p m c cX12_defined 4 s args D ca) (hRf : 6 ≤ R.frames) (hRl : 137 ≤ R.locals) {Q : iST → Prop} (hret : ∀ (u : iST) (H : Heap) (locs : List Loc) (ls : Array Slot) (pc : Nat), Q u → kW D ca A h0 ad H0 H locs u → decode cX12_defined pc = .ok (.return_, 1) → W p l e R s m args below meth c H locs 0 0 Qf (F0 m pc ls [])) {x1 x2 x3 : Int} (rx1 : inR x1) (rx2 : inR x2) (rx3 : inR x3) (hw : kW D ca A h0 ad H0 H locs u) (hl : lv_has ls 4 [(0, .ref h0), (1, .int (jI x1)), (2, .int (jI x2)), (3, .int (jI x3))]) (h : w_defined_7 Q x1 x2 x3 u) : W p l e R s m args below meth c H locs 0 0 Qf (F0 m 7 ls []) := by
  refine h (fun x1 x2 x3 u => ∀ (H : Heap) (locs : List Loc) (ls : Array Slot), inR x1 → inR x2 → inR x3 → kW D ca A h0 ad H0 H locs u → lv_has ls 4 [(0, .ref h0), (1, .int (jI x1)), (2, .int (jI x2)), (3, .int (jI x3))] → W p l e R s m args below meth c H locs 0 0 Qf (F0 m 7 ls [])) ?_ H locs ls rx1 rx2 rx3 hw hl
  clear h hl hw rx1 rx2 rx3
  intro x1 x2 x3 u h H locs ls rx1 rx2 rx3 hw hl
  have hR7 : ∀ (x1 : Int) (x2 : Int) (x3 : Int) (u : iST) (H : Heap) (locs : List Loc) (ls : Array Slot), inR x1 → inR x2 → inR x3 → kW D ca A h0 ad H0 H locs u → lv_has ls 4 [(0, .ref h0), (1, .int (jI x1)), (2, .int (jI x2)), (3, .int (jI x3))] → (fun (x1 : Int) (x2 : Int) (x3 : Int) u => ∀ (H : Heap) (locs : List Loc) (ls : Array Slot), inR x1 → inR x2 → inR x3 → kW D ca A h0 ad H0 H locs u → lv_has ls 4 [(0, .ref h0), (1, .int (jI x1)), (2, .int (jI x2)), (3, .int (jI x3))] → W p l e R s m args below meth c H locs 0 0 Qf (F0 m 7 ls [])) x1 x2 x3 u → W p l e R s m args below meth c H locs 0 0 Qf (F0 m 7 ls []) := fun x1 x2 x3 u H locs ls rx1 rx2 rx3 hw hl h => h H locs ls rx1 rx2 rx3 hw hl
  have hx := X.1.1
  have hb := X.1.2.1
  unfold w_defined_7b at h
  refine lv_iload_n hx hb dX12_defined_7 rfl (lv_at hl 3 rfl) ?_
  refine lv_aload_n hx hb dX12_defined_8 rfl (lv_at hl 0 rfl) ?_
  refine gA 37 81 (by decide) L_37 (fun _ _ => mF_37) rfl X hw dX12_defined_9 ?_
  refine lv_iload_n hx hb dX12_defined_12 rfl (lv_at hl 1 rfl) ?_
  refine aL 37 22 21 40 (fun _ _ _ _ => mG_37) (fun _ => rfl) X hw rx1 dX12_defined_13 rfl h (fun v2 rv2 h => ?_)
  refine k_icmp_ge hx hb rx3 rv2 dX12_defined_14 (tgt := 38) rfl h (fun h => ?_) (fun h => ?_)
  · refine lv_aload_n hx hb dX12_defined_38 rfl (lv_at hl 0 rfl) ?_
    refine lv_aload_n hx hb dX12_defined_39 rfl (lv_at hl 0 rfl) ?_
    refine gA 36 78 (by decide) L_36 (fun _ _ => mF_36) rfl X hw dX12_defined_40 ?_
    refine lv_iload_n hx hb dX12_defined_43 rfl (lv_at hl 1 rfl) ?_
    refine aL 36 21 20 40 (fun _ _ _ _ => mG_36) (fun _ => rfl) X hw rx1 dX12_defined_44 rfl h (fun v3 rv3 h => ?_)
    refine lv_iload_n hx hb dX12_defined_45 rfl (lv_at hl 2 rfl) ?_
    refine kcI (n := 2) (c_callFrom rv3 rx2 h) G_callFrom E_callFrom X hw (Nat.le_trans (Nat.le_of_ble_eq_true rfl) hRf) (Nat.le_trans (Nat.le_of_ble_eq_true rfl) hRl) rfl hl.1 (Nat.le_of_ble_eq_true rfl) rfl dX12_defined_46 (fun v4 u H locs rv4 h hw => ?_)
    refine lv_istore_n hx hb dX12_defined_49 rfl hl (by decide) rfl (fun ls hl => ?_)
    have hl : lv_has ls 4 [(3, .int (jI v4)), (0, .ref (h0)), (1, .int (jI x1)), (2, .int (jI x2))] := hl
    refine lv_aload_n hx hb dX12_defined_50 rfl (lv_at hl 1 rfl) ?_
    refine lv_iload_n hx hb dX12_defined_51 rfl (lv_at hl 3 rfl) ?_
    refine pS 71 486 (by decide) L_71 rfl rfl rfl (fun _ _ _ _ _ => mSI_71) (by decide) X hw rx2 dX12_defined_52 h (fun H locs u hw h => ?_)
    refine lv_aload_n hx hb dX12_defined_55 rfl (lv_at hl 1 rfl) ?_
    refine lv_aload_n hx hb dX12_defined_56 rfl (lv_at hl 1 rfl) ?_
    refine lv_iconst hx hb dX12_defined_57 (v := jI 4) rfl ?_
    refine lv_iload_n hx hb dX12_defined_58 rfl (lv_at hl 0 rfl) ?_
    refine lv_aload_n hx hb dX12_defined_59 rfl (lv_at hl 1 rfl) ?_
    refine gA 39 87 (by decide) L_39 (fun _ _ => mF_39) rfl X hw dX12_defined_60 ?_
    refine lv_iload_n hx hb dX12_defined_63 rfl (lv_at hl 2 rfl) ?_
    refine aL 39 24 23 40 (fun _ _ _ _ => mG_39) (fun _ => rfl) X hw rx1 dX12_defined_64 rfl h (fun v5 rv5 h => ?_)
    refine kcI (n := 3) (c_made2 (by decide) rv4 rv5 h) G_made2 E_made2 X hw (Nat.le_trans (Nat.le_of_ble_eq_true rfl) hRf) (Nat.le_trans (Nat.le_of_ble_eq_true rfl) hRl) rfl hl.1 (Nat.le_of_ble_eq_true rfl) rfl dX12_defined_65 (fun v6 u H locs rv6 h hw => ?_)
    refine kcV (n := 1) (c_put rv6 h) G_put E_put X hw (Nat.le_trans (Nat.le_of_ble_eq_true rfl) hRf) (Nat.le_trans (Nat.le_of_ble_eq_true rfl) hRl) rfl hl.1 (Nat.le_of_ble_eq_true rfl) rfl dX12_defined_68 (fun u H locs h hw => ?_)
    exact hret _ _ _ _ _ h hw dX12_defined_71
  · refine lv_aload_n hx hb dX12_defined_17 rfl (lv_at hl 0 rfl) ?_
    refine lv_aload_n hx hb dX12_defined_18 rfl (lv_at hl 0 rfl) ?_
    refine gA 38 84 (by decide) L_38 (fun _ _ => mF_38) rfl X hw dX12_defined_19 ?_
    refine lv_bipush hx hb dX12_defined_22 (v := jI 6) rfl ?_
    refine lv_iload_n hx hb dX12_defined_24 rfl (lv_at hl 1 rfl) ?_
    refine k_imul hx hb dX12_defined_25 h (fun r8 h => ?_)
    refine lv_iload_n hx hb dX12_defined_26 rfl (lv_at hl 3 rfl) ?_
    refine k_iadd hx hb dX12_defined_27 h (fun r9 h => ?_)
    refine aL 38 23 22 240 (fun _ _ _ _ => mG_38) (fun _ => rfl) X hw r9 dX12_defined_28 rfl h (fun v10 rv10 h => ?_)
    refine kcV (n := 1) (c_build rv10 h) G_build E_build X hw (Nat.le_trans (Nat.le_of_ble_eq_true rfl) hRf) (Nat.le_trans (Nat.le_of_ble_eq_true rfl) hRl) rfl hl.1 (Nat.le_of_ble_eq_true rfl) rfl dX12_defined_29 (fun u H locs h hw => ?_)
    refine k_iinc (k := 3) hx hb dX12_defined_32 hl rfl (by decide) rfl h (fun ls r12 h hl => ?_)
    have hl : lv_has ls 4 [(3, .int (jI (x3 + 1))), (0, .ref (h0)), (1, .int (jI x1)), (2, .int (jI x2))] := hl
    refine lv_goto hx hb dX12_defined_35 (tgt := 7) rfl ?_
    exact hR7 _ _ _ _ H locs ls rx1 rx2 r12 hw (lv_sub hl [1, 2, 3, 0] rfl) h

def w_defined (a0 : Int) (Q : iST → Prop) (u : iST) : Prop :=
  rd (u.1 71) (fun v1 => 
  w_defined_7 Q a0 v1 0 u)
set_option maxRecDepth 20000 in
set_option maxHeartbeats 4000000 in
theorem b_defined_s (X : kX p m c cX12_defined 4 s args D ca) (hRf : 6 ≤ R.frames) (hRl : 137 ≤ R.locals) {Q : iST → Prop} (hret : ∀ (u : iST) (H : Heap) (locs : List Loc) (ls : Array Slot) (pc : Nat), Q u → kW D ca A h0 ad H0 H locs u → decode cX12_defined pc = .ok (.return_, 1) → W p l e R s m args below meth c H locs 0 0 Qf (F0 m pc ls [])) {a0 : Int} (ra0 : inR a0) (hw : kW D ca A h0 ad H0 H locs u) (hl : lv_has ls 4 [(0, .ref h0), (1, .int (jI a0))]) (h : w_defined a0 Q u) : W p l e R s m args below meth c H locs 0 0 Qf (F0 m 0 ls []) := by
  have hx := X.1.1
  have hb := X.1.2.1
  unfold w_defined at h
  refine lv_aload_n hx hb dX12_defined_0 rfl (lv_at hl 0 rfl) ?_
  refine gS 71 486 (by decide) L_71 (fun _ _ => mF_71) rfl X hw dX12_defined_1 h (fun v1 rv1 h => ?_)
  refine lv_istore_n hx hb dX12_defined_4 rfl hl (by decide) rfl (fun ls hl => ?_)
  have hl : lv_has ls 4 [(2, .int (jI v1)), (0, .ref (h0)), (1, .int (jI a0))] := hl
  refine lv_iconst hx hb dX12_defined_5 (v := jI 0) rfl ?_
  refine lv_istore_n hx hb dX12_defined_6 rfl hl (by decide) rfl (fun ls hl => ?_)
  have hl : lv_has ls 4 [(3, .int (jI 0)), (2, .int (jI v1)), (0, .ref (h0)), (1, .int (jI a0))] := hl
  exact b_defined_7 X hRf hRl hret ra0 rv1 (by decide) hw (lv_sub hl [2, 3, 1, 0] rfl) h

end
theorem c_defined {l : Launch} {a0 : Int} (ra0 : inR a0) {Q : iST → Prop} {u : iST} (h : w_defined a0 Q u) : kMV l yX12_defined (.code yX12_defined cX12_defined 4 none :: wsM) { frames := 6, cells := 0, slots := 0, locals := 137 } [.int (jI a0)] Q u := kMV_of rfl (fun _ => Nat.le_of_ble_eq_true rfl) (fun X hRf hRl hret hw hl => b_defined_s X hRf hRl hret ra0 hw hl h)

/-! instanced -/
theorem dX12_instanced_0 : decode cX12_instanced 0 = .ok (.iconst 0, 1) := by decide +kernel
theorem dX12_instanced_1 : decode cX12_instanced 1 = .ok (.istore_n 3, 1) := by decide +kernel
theorem dX12_instanced_2 : decode cX12_instanced 2 = .ok (.iload_n 3, 1) := by decide +kernel
theorem dX12_instanced_3 : decode cX12_instanced 3 = .ok (.aload_n 0, 1) := by decide +kernel
theorem dX12_instanced_4 : decode cX12_instanced 4 = .ok (.getfield 302, 3) := by decide +kernel
theorem dX12_instanced_7 : decode cX12_instanced 7 = .ok (.iload_n 2, 1) := by decide +kernel
theorem dX12_instanced_8 : decode cX12_instanced 8 = .ok (.iaload, 1) := by decide +kernel
theorem dX12_instanced_9 : decode cX12_instanced 9 = .ok (.if_icmp .ge 123, 3) := by decide +kernel
theorem dX12_instanced_12 : decode cX12_instanced 12 = .ok (.aload_n 0, 1) := by decide +kernel
theorem dX12_instanced_13 : decode cX12_instanced 13 = .ok (.iconst 0, 1) := by decide +kernel
theorem dX12_instanced_14 : decode cX12_instanced 14 = .ok (.putfield 495, 3) := by decide +kernel
theorem dX12_instanced_17 : decode cX12_instanced 17 = .ok (.aload_n 0, 1) := by decide +kernel
theorem dX12_instanced_18 : decode cX12_instanced 18 = .ok (.getfield 14, 3) := by decide +kernel
theorem dX12_instanced_21 : decode cX12_instanced 21 = .ok (.aload_n 0, 1) := by decide +kernel
theorem dX12_instanced_22 : decode cX12_instanced 22 = .ok (.getfield 14, 3) := by decide +kernel
theorem dX12_instanced_25 : decode cX12_instanced 25 = .ok (.iload_n 1, 1) := by decide +kernel
theorem dX12_instanced_26 : decode cX12_instanced 26 = .ok (.iaload, 1) := by decide +kernel
theorem dX12_instanced_27 : decode cX12_instanced 27 = .ok (.iaload, 1) := by decide +kernel
theorem dX12_instanced_28 : decode cX12_instanced 28 = .ok (.istore 4, 2) := by decide +kernel
theorem dX12_instanced_30 : decode cX12_instanced 30 = .ok (.iload 4, 2) := by decide +kernel
theorem dX12_instanced_32 : decode cX12_instanced 32 = .ok (.ifCond .eq 75, 3) := by decide +kernel
theorem dX12_instanced_35 : decode cX12_instanced 35 = .ok (.aload_n 0, 1) := by decide +kernel
theorem dX12_instanced_36 : decode cX12_instanced 36 = .ok (.aload_n 0, 1) := by decide +kernel
theorem dX12_instanced_37 : decode cX12_instanced 37 = .ok (.aload_n 0, 1) := by decide +kernel
theorem dX12_instanced_38 : decode cX12_instanced 38 = .ok (.getfield 8, 3) := by decide +kernel
theorem dX12_instanced_41 : decode cX12_instanced 41 = .ok (.iload 4, 2) := by decide +kernel
theorem dX12_instanced_43 : decode cX12_instanced 43 = .ok (.iaload, 1) := by decide +kernel
theorem dX12_instanced_44 : decode cX12_instanced 44 = .ok (.iconst 1, 1) := by decide +kernel
theorem dX12_instanced_45 : decode cX12_instanced 45 = .ok (.invokevirtual 471, 3) := by decide +kernel
theorem dX12_instanced_48 : decode cX12_instanced 48 = .ok (.invokevirtual 815, 3) := by decide +kernel
theorem dX12_instanced_51 : decode cX12_instanced 51 = .ok (.istore 5, 2) := by decide +kernel
theorem dX12_instanced_53 : decode cX12_instanced 53 = .ok (.aload_n 0, 1) := by decide +kernel
theorem dX12_instanced_54 : decode cX12_instanced 54 = .ok (.getfield 157, 3) := by decide +kernel
theorem dX12_instanced_57 : decode cX12_instanced 57 = .ok (.aload_n 0, 1) := by decide +kernel
theorem dX12_instanced_58 : decode cX12_instanced 58 = .ok (.getfield 495, 3) := by decide +kernel
theorem dX12_instanced_61 : decode cX12_instanced 61 = .ok (.aload_n 0, 1) := by decide +kernel
theorem dX12_instanced_62 : decode cX12_instanced 62 = .ok (.getfield 8, 3) := by decide +kernel
theorem dX12_instanced_65 : decode cX12_instanced 65 = .ok (.aload_n 0, 1) := by decide +kernel
theorem dX12_instanced_66 : decode cX12_instanced 66 = .ok (.getfield 8, 3) := by decide +kernel
theorem dX12_instanced_69 : decode cX12_instanced 69 = .ok (.iload 4, 2) := by decide +kernel
theorem dX12_instanced_71 : decode cX12_instanced 71 = .ok (.iaload, 1) := by decide +kernel
theorem dX12_instanced_72 : decode cX12_instanced 72 = .ok (.iaload, 1) := by decide +kernel
theorem dX12_instanced_73 : decode cX12_instanced 73 = .ok (.iastore, 1) := by decide +kernel
theorem dX12_instanced_74 : decode cX12_instanced 74 = .ok (.aload_n 0, 1) := by decide +kernel
theorem dX12_instanced_75 : decode cX12_instanced 75 = .ok (.getfield 160, 3) := by decide +kernel
theorem dX12_instanced_78 : decode cX12_instanced 78 = .ok (.aload_n 0, 1) := by decide +kernel
theorem dX12_instanced_79 : decode cX12_instanced 79 = .ok (.getfield 495, 3) := by decide +kernel
theorem dX12_instanced_82 : decode cX12_instanced 82 = .ok (.iload 5, 2) := by decide +kernel
theorem dX12_instanced_84 : decode cX12_instanced 84 = .ok (.iastore, 1) := by decide +kernel
theorem dX12_instanced_85 : decode cX12_instanced 85 = .ok (.aload_n 0, 1) := by decide +kernel
theorem dX12_instanced_86 : decode cX12_instanced 86 = .ok (.dup, 1) := by decide +kernel
theorem dX12_instanced_87 : decode cX12_instanced 87 = .ok (.getfield 495, 3) := by decide +kernel
theorem dX12_instanced_90 : decode cX12_instanced 90 = .ok (.iconst 1, 1) := by decide +kernel
theorem dX12_instanced_91 : decode cX12_instanced 91 = .ok (.iadd, 1) := by decide +kernel
theorem dX12_instanced_92 : decode cX12_instanced 92 = .ok (.putfield 495, 3) := by decide +kernel
theorem dX12_instanced_95 : decode cX12_instanced 95 = .ok (.aload_n 0, 1) := by decide +kernel
theorem dX12_instanced_96 : decode cX12_instanced 96 = .ok (.getfield 14, 3) := by decide +kernel
theorem dX12_instanced_99 : decode cX12_instanced 99 = .ok (.iload 4, 2) := by decide +kernel
theorem dX12_instanced_101 : decode cX12_instanced 101 = .ok (.iaload, 1) := by decide +kernel
theorem dX12_instanced_102 : decode cX12_instanced 102 = .ok (.istore 4, 2) := by decide +kernel
theorem dX12_instanced_104 : decode cX12_instanced 104 = .ok (.goto (-74), 3) := by decide +kernel
theorem dX12_instanced_107 : decode cX12_instanced 107 = .ok (.aload_n 0, 1) := by decide +kernel
theorem dX12_instanced_108 : decode cX12_instanced 108 = .ok (.aload_n 0, 1) := by decide +kernel
theorem dX12_instanced_109 : decode cX12_instanced 109 = .ok (.aload_n 0, 1) := by decide +kernel
theorem dX12_instanced_110 : decode cX12_instanced 110 = .ok (.getfield 299, 3) := by decide +kernel
theorem dX12_instanced_113 : decode cX12_instanced 113 = .ok (.bipush 30, 2) := by decide +kernel
theorem dX12_instanced_115 : decode cX12_instanced 115 = .ok (.iload_n 2, 1) := by decide +kernel
theorem dX12_instanced_116 : decode cX12_instanced 116 = .ok (.imul, 1) := by decide +kernel
theorem dX12_instanced_117 : decode cX12_instanced 117 = .ok (.iload_n 3, 1) := by decide +kernel
theorem dX12_instanced_118 : decode cX12_instanced 118 = .ok (.iadd, 1) := by decide +kernel
theorem dX12_instanced_119 : decode cX12_instanced 119 = .ok (.iaload, 1) := by decide +kernel
theorem dX12_instanced_120 : decode cX12_instanced 120 = .ok (.invokevirtual 712, 3) := by decide +kernel
theorem dX12_instanced_123 : decode cX12_instanced 123 = .ok (.invokevirtual 739, 3) := by decide +kernel
theorem dX12_instanced_126 : decode cX12_instanced 126 = .ok (.iinc 3 1, 3) := by decide +kernel
theorem dX12_instanced_129 : decode cX12_instanced 129 = .ok (.goto (-127), 3) := by decide +kernel
theorem dX12_instanced_132 : decode cX12_instanced 132 = .ok (.iconst 1, 1) := by decide +kernel
theorem dX12_instanced_133 : decode cX12_instanced 133 = .ok (.ireturn, 1) := by decide +kernel

section
variable {p : Program} {l : Launch} {e : Env} {R : Room} {s : State} {m : MethodId} {args : Array Value} {below : List Frame} {meth : Method} {c : Code} {H : Heap} {locs : List Loc} {Qf : State → Prop}
variable {ls : Array Slot} {D : va_G} {ca : Nat → ClassId} {A : Nat → Prop} {h0 : Nat} {ad : Nat → Nat} {H0 : Heap} {u : iST}
def w_instanced_30b (R2 : Int → Int → Int → iST → Prop) (R30 : Int → Int → Int → Int → iST → Prop) (Q : Int → iST → Prop) (x1 : Int) (x2 : Int) (x3 : Int) (x4 : Int) (u : iST) : Prop :=
  br (x4 = 0) (
    ov (30 * x2) (
    ov ((30 * x2) + x3) (
    bd ((30 * x2) + x3) 10500 (rd (u.2.1 145 ((30 * x2) + x3)) (fun v6 => 
    w_instance v6 (fun v7 u => 
    w_put v7 (fun u => 
    ov (x3 + 1) (
    R2 x1 x2 (x3 + 1) u)) u) u))))) (
    bd x4 452000 (rd (u.2.1 0 x4) (fun v10 => 
    w_nth v10 1 (fun v11 u => 
    w_termOf v11 (fun v12 u => 
    rd (u.1 74) (fun v13 => 
    bd x4 452000 (rd (u.2.1 0 x4) (fun v14 => 
    bd v14 452000 (rd (u.2.1 0 v14) (fun v15 => 
    bd v13 400 (sw (iA u 72 v13 v15) (fun u => 
    rd (u.1 74) (fun v16 => 
    bd v16 400 (sw (iA u 73 v16 v12) (fun u => 
    rd (u.1 74) (fun v17 => 
    ov (v17 + 1) (
    sw (iI u 74 (v17 + 1)) (fun u => 
    bd x4 452000 (rd (u.2.1 1 x4) (fun v19 => 
    R30 x1 x2 x3 v19 u)))))))))))))))) u) u)))
def w_instanced_30 (R2 : Int → Int → Int → iST → Prop) (Q : Int → iST → Prop) (x1 : Int) (x2 : Int) (x3 : Int) (x4 : Int) (u : iST) : Prop := ∀ R30 : Int → Int → Int → Int → iST → Prop, (∀ (x1 : Int) (x2 : Int) (x3 : Int) (x4 : Int) (u : iST), w_instanced_30b R2 R30 Q x1 x2 x3 x4 u → R30 x1 x2 x3 x4 u) → R30 x1 x2 x3 x4 u
set_option maxRecDepth 20000 in
set_option maxHeartbeats 4000000 in
theorem b_instanced_30 (X : kX p m c cX12_instanced 6 s args D ca) (hRf : 7 ≤ R.frames) (hRl : 159 ≤ R.locals) {Q : Int → iST → Prop} (hret : ∀ (v : Int) (u : iST) (H : Heap) (locs : List Loc) (ls : Array Slot) (pc : Nat), bz v → Q v u → kW D ca A h0 ad H0 H locs u → decode cX12_instanced pc = .ok (.ireturn, 1) → W p l e R s m args below meth c H locs 0 0 Qf (F0 m pc ls [.int (jI v)])) {R2 : Int → Int → Int → iST → Prop} (hR2 : ∀ (x1 : Int) (x2 : Int) (x3 : Int) (u : iST) (H : Heap) (locs : List Loc) (ls : Array Slot), inR x1 → inR x2 → inR x3 → kW D ca A h0 ad H0 H locs u → lv_has ls 6 [(0, .ref h0), (1, .int (jI x1)), (2, .int (jI x2)), (3, .int (jI x3))] → R2 x1 x2 x3 u → W p l e R s m args below meth c H locs 0 0 Qf (F0 m 2 ls [])) {x1 x2 x3 x4 : Int} (rx1 : inR x1) (rx2 : inR x2) (rx3 : inR x3) (rx4 : inR x4) (hw : kW D ca A h0 ad H0 H locs u) (hl : lv_has ls 6 [(0, .ref h0), (1, .int (jI x1)), (2, .int (jI x2)), (3, .int (jI x3)), (4, .int (jI x4))]) (h : w_instanced_30 R2 Q x1 x2 x3 x4 u) : W p l e R s m args below meth c H locs 0 0 Qf (F0 m 30 ls []) := by
  refine h (fun x1 x2 x3 x4 u => ∀ (H : Heap) (locs : List Loc) (ls : Array Slot), inR x1 → inR x2 → inR x3 → inR x4 → kW D ca A h0 ad H0 H locs u → lv_has ls 6 [(0, .ref h0), (1, .int (jI x1)), (2, .int (jI x2)), (3, .int (jI x3)), (4, .int (jI x4))] → W p l e R s m args below meth c H locs 0 0 Qf (F0 m 30 ls [])) ?_ H locs ls rx1 rx2 rx3 rx4 hw hl
  clear h hl hw rx1 rx2 rx3 rx4
  intro x1 x2 x3 x4 u h H locs ls rx1 rx2 rx3 rx4 hw hl
  have hR30 : ∀ (x1 : Int) (x2 : Int) (x3 : Int) (x4 : Int) (u : iST) (H : Heap) (locs : List Loc) (ls : Array Slot), inR x1 → inR x2 → inR x3 → inR x4 → kW D ca A h0 ad H0 H locs u → lv_has ls 6 [(0, .ref h0), (1, .int (jI x1)), (2, .int (jI x2)), (3, .int (jI x3)), (4, .int (jI x4))] → (fun (x1 : Int) (x2 : Int) (x3 : Int) (x4 : Int) u => ∀ (H : Heap) (locs : List Loc) (ls : Array Slot), inR x1 → inR x2 → inR x3 → inR x4 → kW D ca A h0 ad H0 H locs u → lv_has ls 6 [(0, .ref h0), (1, .int (jI x1)), (2, .int (jI x2)), (3, .int (jI x3)), (4, .int (jI x4))] → W p l e R s m args below meth c H locs 0 0 Qf (F0 m 30 ls [])) x1 x2 x3 x4 u → W p l e R s m args below meth c H locs 0 0 Qf (F0 m 30 ls []) := fun x1 x2 x3 x4 u H locs ls rx1 rx2 rx3 rx4 hw hl h => h H locs ls rx1 rx2 rx3 rx4 hw hl
  have hx := X.1.1
  have hb := X.1.2.1
  unfold w_instanced_30b at h
  refine lv_iload hx hb dX12_instanced_30 (lv_at hl 4 rfl) ?_
  refine k_if_eq hx hb rx4 dX12_instanced_32 (tgt := 107) rfl h (fun h => ?_) (fun h => ?_)
  · refine lv_aload_n hx hb dX12_instanced_107 rfl (lv_at hl 0 rfl) ?_
    refine lv_aload_n hx hb dX12_instanced_108 rfl (lv_at hl 0 rfl) ?_
    refine lv_aload_n hx hb dX12_instanced_109 rfl (lv_at hl 0 rfl) ?_
    refine gA 145 299 (by decide) L_145 (fun _ _ => mF_145) rfl X hw dX12_instanced_110 ?_
    refine lv_bipush hx hb dX12_instanced_113 (v := jI 30) rfl ?_
    refine lv_iload_n hx hb dX12_instanced_115 rfl (lv_at hl 2 rfl) ?_
    refine k_imul hx hb dX12_instanced_116 h (fun r4 h => ?_)
    refine lv_iload_n hx hb dX12_instanced_117 rfl (lv_at hl 3 rfl) ?_
    refine k_iadd hx hb dX12_instanced_118 h (fun r5 h => ?_)
    refine aL 145 92 91 10500 (fun _ _ _ _ => mG_145) (fun _ => rfl) X hw r5 dX12_instanced_119 rfl h (fun v6 rv6 h => ?_)
    refine kcI (n := 1) (c_instance rv6 h) G_instance E_instance X hw (Nat.le_trans (Nat.le_of_ble_eq_true rfl) hRf) (Nat.le_trans (Nat.le_of_ble_eq_true rfl) hRl) rfl hl.1 (Nat.le_of_ble_eq_true rfl) rfl dX12_instanced_120 (fun v7 u H locs rv7 h hw => ?_)
    refine kcV (n := 1) (c_put rv7 h) G_put E_put X hw (Nat.le_trans (Nat.le_of_ble_eq_true rfl) hRf) (Nat.le_trans (Nat.le_of_ble_eq_true rfl) hRl) rfl hl.1 (Nat.le_of_ble_eq_true rfl) rfl dX12_instanced_123 (fun u H locs h hw => ?_)
    refine k_iinc (k := 3) hx hb dX12_instanced_126 hl rfl (by decide) rfl h (fun ls r9 h hl => ?_)
    have hl : lv_has ls 6 [(3, .int (jI (x3 + 1))), (0, .ref (h0)), (1, .int (jI x1)), (2, .int (jI x2)), (4, .int (jI x4))] := hl
    refine lv_goto hx hb dX12_instanced_129 (tgt := 2) rfl ?_
    exact hR2 _ _ _ _ H locs ls rx1 rx2 r9 hw (lv_sub hl [1, 2, 3, 0] rfl) h
  · refine lv_aload_n hx hb dX12_instanced_35 rfl (lv_at hl 0 rfl) ?_
    refine lv_aload_n hx hb dX12_instanced_36 rfl (lv_at hl 0 rfl) ?_
    refine lv_aload_n hx hb dX12_instanced_37 rfl (lv_at hl 0 rfl) ?_
    refine gA 0 8 (by decide) L_0 (fun _ _ => mF_0) rfl X hw dX12_instanced_38 ?_
    refine lv_iload hx hb dX12_instanced_41 (lv_at hl 4 rfl) ?_
    refine aL 0 1 0 452000 (fun _ _ _ _ => mG_0) (fun _ => rfl) X hw rx4 dX12_instanced_43 rfl h (fun v10 rv10 h => ?_)
    refine lv_iconst hx hb dX12_instanced_44 (v := jI 1) rfl ?_
    refine kcI (n := 2) (c_nth rv10 (by decide) h) G_nth E_nth X hw (Nat.le_trans (Nat.le_of_ble_eq_true rfl) hRf) (Nat.le_trans (Nat.le_of_ble_eq_true rfl) hRl) rfl hl.1 (Nat.le_of_ble_eq_true rfl) rfl dX12_instanced_45 (fun v11 u H locs rv11 h hw => ?_)
    refine kcI (n := 1) (c_termOf rv11 h) G_termOf E_termOf X hw (Nat.le_trans (Nat.le_of_ble_eq_true rfl) hRf) (Nat.le_trans (Nat.le_of_ble_eq_true rfl) hRl) rfl hl.1 (Nat.le_of_ble_eq_true rfl) rfl dX12_instanced_48 (fun v12 u H locs rv12 h hw => ?_)
    refine lv_istore hx hb dX12_instanced_51 hl (by decide) rfl (fun ls hl => ?_)
    have hl : lv_has ls 6 [(5, .int (jI v12)), (0, .ref (h0)), (1, .int (jI x1)), (2, .int (jI x2)), (3, .int (jI x3)), (4, .int (jI x4))] := hl
    refine lv_aload_n hx hb dX12_instanced_53 rfl (lv_at hl 1 rfl) ?_
    refine gA 72 157 (by decide) L_72 (fun _ _ => mF_72) rfl X hw dX12_instanced_54 ?_
    refine lv_aload_n hx hb dX12_instanced_57 rfl (lv_at hl 1 rfl) ?_
    refine gS 74 495 (by decide) L_74 (fun _ _ => mF_74) rfl X hw dX12_instanced_58 h (fun v13 rv13 h => ?_)
    refine lv_aload_n hx hb dX12_instanced_61 rfl (lv_at hl 1 rfl) ?_
    refine gA 0 8 (by decide) L_0 (fun _ _ => mF_0) rfl X hw dX12_instanced_62 ?_
    refine lv_aload_n hx hb dX12_instanced_65 rfl (lv_at hl 1 rfl) ?_
    refine gA 0 8 (by decide) L_0 (fun _ _ => mF_0) rfl X hw dX12_instanced_66 ?_
    refine lv_iload hx hb dX12_instanced_69 (lv_at hl 5 rfl) ?_
    refine aL 0 1 0 452000 (fun _ _ _ _ => mG_0) (fun _ => rfl) X hw rx4 dX12_instanced_71 rfl h (fun v14 rv14 h => ?_)
    refine aL 0 1 0 452000 (fun _ _ _ _ => mG_0) (fun _ => rfl) X hw rv14 dX12_instanced_72 rfl h (fun v15 rv15 h => ?_)
    refine aS 72 45 44 400 (fun _ _ _ _ => mG_72) (fun _ => rfl) (fun _ _ _ _ _ _ => mSA_72) (by decide) X hw rv13 rv15 dX12_instanced_73 rfl h (fun H locs u hw h => ?_)
    refine lv_aload_n hx hb dX12_instanced_74 rfl (lv_at hl 1 rfl) ?_
    refine gA 73 160 (by decide) L_73 (fun _ _ => mF_73) rfl X hw dX12_instanced_75 ?_
    refine lv_aload_n hx hb dX12_instanced_78 rfl (lv_at hl 1 rfl) ?_
    refine gS 74 495 (by decide) L_74 (fun _ _ => mF_74) rfl X hw dX12_instanced_79 h (fun v16 rv16 h => ?_)
    refine lv_iload hx hb dX12_instanced_82 (lv_at hl 0 rfl) ?_
    refine aS 73 46 45 400 (fun _ _ _ _ => mG_73) (fun _ => rfl) (fun _ _ _ _ _ _ => mSA_73) (by decide) X hw rv16 rv12 dX12_instanced_84 rfl h (fun H locs u hw h => ?_)
    refine lv_aload_n hx hb dX12_instanced_85 rfl (lv_at hl 1 rfl) ?_
    refine lv_dup hx hb dX12_instanced_86 rfl ?_
    refine gS 74 495 (by decide) L_74 (fun _ _ => mF_74) rfl X hw dX12_instanced_87 h (fun v17 rv17 h => ?_)
    refine lv_iconst hx hb dX12_instanced_90 (v := jI 1) rfl ?_
    refine k_iadd hx hb dX12_instanced_91 h (fun r18 h => ?_)
    refine pS 74 495 (by decide) L_74 rfl rfl rfl (fun _ _ _ _ _ => mSI_74) (by decide) X hw r18 dX12_instanced_92 h (fun H locs u hw h => ?_)
    refine lv_aload_n hx hb dX12_instanced_95 rfl (lv_at hl 1 rfl) ?_
    refine gA 1 14 (by decide) L_1 (fun _ _ => mF_1) rfl X hw dX12_instanced_96 ?_
    refine lv_iload hx hb dX12_instanced_99 (lv_at hl 5 rfl) ?_
    refine aL 1 2 1 452000 (fun _ _ _ _ => mG_1) (fun _ => rfl) X hw rx4 dX12_instanced_101 rfl h (fun v19 rv19 h => ?_)
    refine lv_istore hx hb dX12_instanced_102 hl (by decide) rfl (fun ls hl => ?_)
    have hl : lv_has ls 6 [(4, .int (jI v19)), (5, .int (jI v12)), (0, .ref (h0)), (1, .int (jI x1)), (2, .int (jI x2)), (3, .int (jI x3))] := hl
    refine lv_goto hx hb dX12_instanced_104 (tgt := 30) rfl ?_
    exact hR30 _ _ _ _ _ H locs ls rx1 rx2 rx3 rv19 hw (lv_sub hl [2, 3, 4, 5, 0] rfl) h

def w_instanced_2b (R2 : Int → Int → Int → iST → Prop) (Q : Int → iST → Prop) (x1 : Int) (x2 : Int) (x3 : Int) (u : iST) : Prop :=
  bd x2 350 (rd (u.2.1 146 x2) (fun v1 => 
  br (v1 ≤ x3) (
    zt 1 (Q 1 u)) (
    sw (iI u 74 0) (fun u => 
    bd x1 452000 (rd (u.2.1 1 x1) (fun v2 => 
    bd v2 452000 (rd (u.2.1 1 v2) (fun v3 => 
    w_instanced_30 R2 Q x1 x2 x3 v3 u))))))))
def w_instanced_2 (Q : Int → iST → Prop) (x1 : Int) (x2 : Int) (x3 : Int) (u : iST) : Prop := ∀ R2 : Int → Int → Int → iST → Prop, (∀ (x1 : Int) (x2 : Int) (x3 : Int) (u : iST), w_instanced_2b R2 Q x1 x2 x3 u → R2 x1 x2 x3 u) → R2 x1 x2 x3 u
set_option maxRecDepth 20000 in
set_option maxHeartbeats 4000000 in
theorem b_instanced_2 (X : kX p m c cX12_instanced 6 s args D ca) (hRf : 7 ≤ R.frames) (hRl : 159 ≤ R.locals) {Q : Int → iST → Prop} (hret : ∀ (v : Int) (u : iST) (H : Heap) (locs : List Loc) (ls : Array Slot) (pc : Nat), bz v → Q v u → kW D ca A h0 ad H0 H locs u → decode cX12_instanced pc = .ok (.ireturn, 1) → W p l e R s m args below meth c H locs 0 0 Qf (F0 m pc ls [.int (jI v)])) {x1 x2 x3 : Int} (rx1 : inR x1) (rx2 : inR x2) (rx3 : inR x3) (hw : kW D ca A h0 ad H0 H locs u) (hl : lv_has ls 6 [(0, .ref h0), (1, .int (jI x1)), (2, .int (jI x2)), (3, .int (jI x3))]) (h : w_instanced_2 Q x1 x2 x3 u) : W p l e R s m args below meth c H locs 0 0 Qf (F0 m 2 ls []) := by
  refine h (fun x1 x2 x3 u => ∀ (H : Heap) (locs : List Loc) (ls : Array Slot), inR x1 → inR x2 → inR x3 → kW D ca A h0 ad H0 H locs u → lv_has ls 6 [(0, .ref h0), (1, .int (jI x1)), (2, .int (jI x2)), (3, .int (jI x3))] → W p l e R s m args below meth c H locs 0 0 Qf (F0 m 2 ls [])) ?_ H locs ls rx1 rx2 rx3 hw hl
  clear h hl hw rx1 rx2 rx3
  intro x1 x2 x3 u h H locs ls rx1 rx2 rx3 hw hl
  have hR2 : ∀ (x1 : Int) (x2 : Int) (x3 : Int) (u : iST) (H : Heap) (locs : List Loc) (ls : Array Slot), inR x1 → inR x2 → inR x3 → kW D ca A h0 ad H0 H locs u → lv_has ls 6 [(0, .ref h0), (1, .int (jI x1)), (2, .int (jI x2)), (3, .int (jI x3))] → (fun (x1 : Int) (x2 : Int) (x3 : Int) u => ∀ (H : Heap) (locs : List Loc) (ls : Array Slot), inR x1 → inR x2 → inR x3 → kW D ca A h0 ad H0 H locs u → lv_has ls 6 [(0, .ref h0), (1, .int (jI x1)), (2, .int (jI x2)), (3, .int (jI x3))] → W p l e R s m args below meth c H locs 0 0 Qf (F0 m 2 ls [])) x1 x2 x3 u → W p l e R s m args below meth c H locs 0 0 Qf (F0 m 2 ls []) := fun x1 x2 x3 u H locs ls rx1 rx2 rx3 hw hl h => h H locs ls rx1 rx2 rx3 hw hl
  have hx := X.1.1
  have hb := X.1.2.1
  unfold w_instanced_2b at h
  refine lv_iload_n hx hb dX12_instanced_2 rfl (lv_at hl 3 rfl) ?_
  refine lv_aload_n hx hb dX12_instanced_3 rfl (lv_at hl 0 rfl) ?_
  refine gA 146 302 (by decide) L_146 (fun _ _ => mF_146) rfl X hw dX12_instanced_4 ?_
  refine lv_iload_n hx hb dX12_instanced_7 rfl (lv_at hl 2 rfl) ?_
  refine aL 146 93 92 350 (fun _ _ _ _ => mG_146) (fun _ => rfl) X hw rx2 dX12_instanced_8 rfl h (fun v1 rv1 h => ?_)
  refine k_icmp_ge hx hb rx3 rv1 dX12_instanced_9 (tgt := 132) rfl h (fun h => ?_) (fun h => ?_)
  · refine lv_iconst hx hb dX12_instanced_132 (v := jI 1) rfl ?_
    exact hret _ _ _ _ _ _ h.1 h.2 hw dX12_instanced_133
  · refine lv_aload_n hx hb dX12_instanced_12 rfl (lv_at hl 0 rfl) ?_
    refine lv_iconst hx hb dX12_instanced_13 (v := jI 0) rfl ?_
    refine pS 74 495 (by decide) L_74 rfl rfl rfl (fun _ _ _ _ _ => mSI_74) (by decide) X hw (by decide) dX12_instanced_14 h (fun H locs u hw h => ?_)
    refine lv_aload_n hx hb dX12_instanced_17 rfl (lv_at hl 0 rfl) ?_
    refine gA 1 14 (by decide) L_1 (fun _ _ => mF_1) rfl X hw dX12_instanced_18 ?_
    refine lv_aload_n hx hb dX12_instanced_21 rfl (lv_at hl 0 rfl) ?_
    refine gA 1 14 (by decide) L_1 (fun _ _ => mF_1) rfl X hw dX12_instanced_22 ?_
    refine lv_iload_n hx hb dX12_instanced_25 rfl (lv_at hl 1 rfl) ?_
    refine aL 1 2 1 452000 (fun _ _ _ _ => mG_1) (fun _ => rfl) X hw rx1 dX12_instanced_26 rfl h (fun v2 rv2 h => ?_)
    refine aL 1 2 1 452000 (fun _ _ _ _ => mG_1) (fun _ => rfl) X hw rv2 dX12_instanced_27 rfl h (fun v3 rv3 h => ?_)
    refine lv_istore hx hb dX12_instanced_28 hl (by decide) rfl (fun ls hl => ?_)
    have hl : lv_has ls 6 [(4, .int (jI v3)), (0, .ref (h0)), (1, .int (jI x1)), (2, .int (jI x2)), (3, .int (jI x3))] := hl
    exact b_instanced_30 X hRf hRl hret hR2 rx1 rx2 rx3 rv3 hw (lv_sub hl [1, 2, 3, 4, 0] rfl) h

def w_instanced (a0 : Int) (a1 : Int) (Q : Int → iST → Prop) (u : iST) : Prop :=
  w_instanced_2 Q a0 a1 0 u
set_option maxRecDepth 20000 in
set_option maxHeartbeats 4000000 in
theorem b_instanced_s (X : kX p m c cX12_instanced 6 s args D ca) (hRf : 7 ≤ R.frames) (hRl : 159 ≤ R.locals) {Q : Int → iST → Prop} (hret : ∀ (v : Int) (u : iST) (H : Heap) (locs : List Loc) (ls : Array Slot) (pc : Nat), bz v → Q v u → kW D ca A h0 ad H0 H locs u → decode cX12_instanced pc = .ok (.ireturn, 1) → W p l e R s m args below meth c H locs 0 0 Qf (F0 m pc ls [.int (jI v)])) {a0 a1 : Int} (ra0 : inR a0) (ra1 : inR a1) (hw : kW D ca A h0 ad H0 H locs u) (hl : lv_has ls 6 [(0, .ref h0), (1, .int (jI a0)), (2, .int (jI a1))]) (h : w_instanced a0 a1 Q u) : W p l e R s m args below meth c H locs 0 0 Qf (F0 m 0 ls []) := by
  have hx := X.1.1
  have hb := X.1.2.1
  unfold w_instanced at h
  refine lv_iconst hx hb dX12_instanced_0 (v := jI 0) rfl ?_
  refine lv_istore_n hx hb dX12_instanced_1 rfl hl (by decide) rfl (fun ls hl => ?_)
  have hl : lv_has ls 6 [(3, .int (jI 0)), (0, .ref (h0)), (1, .int (jI a0)), (2, .int (jI a1))] := hl
  exact b_instanced_2 X hRf hRl hret ra0 ra1 (by decide) hw (lv_sub hl [1, 2, 3, 0] rfl) h

end
theorem c_instanced {l : Launch} {a0 : Int} {a1 : Int} (ra0 : inR a0) (ra1 : inR a1) {Q : Int → iST → Prop} {u : iST} (h : w_instanced a0 a1 Q u) : kMI l yX12_instanced (.code yX12_instanced cX12_instanced 6 (some .boolean) :: wsM) { frames := 7, cells := 0, slots := 0, locals := 159 } [.int (jI a0), .int (jI a1)] Q u := kMZ_of rfl (fun _ => Nat.le_of_ble_eq_true rfl) (fun X hRf hRl hret hw hl => b_instanced_s X hRf hRl hret ra0 ra1 hw hl h)

/-! replaced -/
theorem dX12_replaced_0 : decode cX12_replaced 0 = .ok (.aload_n 0, 1) := by decide +kernel
theorem dX12_replaced_1 : decode cX12_replaced 1 = .ok (.iload_n 1, 1) := by decide +kernel
theorem dX12_replaced_2 : decode cX12_replaced 2 = .ok (.invokevirtual 953, 3) := by decide +kernel
theorem dX12_replaced_5 : decode cX12_replaced 5 = .ok (.ifCond .ne 5, 3) := by decide +kernel
theorem dX12_replaced_8 : decode cX12_replaced 8 = .ok (.iconst 0, 1) := by decide +kernel
theorem dX12_replaced_9 : decode cX12_replaced 9 = .ok (.ireturn, 1) := by decide +kernel
theorem dX12_replaced_10 : decode cX12_replaced 10 = .ok (.aload_n 0, 1) := by decide +kernel
theorem dX12_replaced_11 : decode cX12_replaced 11 = .ok (.aload_n 0, 1) := by decide +kernel
theorem dX12_replaced_12 : decode cX12_replaced 12 = .ok (.getfield 299, 3) := by decide +kernel
theorem dX12_replaced_15 : decode cX12_replaced 15 = .ok (.bipush 30, 2) := by decide +kernel
theorem dX12_replaced_17 : decode cX12_replaced 17 = .ok (.iload_n 1, 1) := by decide +kernel
theorem dX12_replaced_18 : decode cX12_replaced 18 = .ok (.imul, 1) := by decide +kernel
theorem dX12_replaced_19 : decode cX12_replaced 19 = .ok (.iaload, 1) := by decide +kernel
theorem dX12_replaced_20 : decode cX12_replaced 20 = .ok (.iconst 1, 1) := by decide +kernel
theorem dX12_replaced_21 : decode cX12_replaced 21 = .ok (.invokevirtual 592, 3) := by decide +kernel
theorem dX12_replaced_24 : decode cX12_replaced 24 = .ok (.istore_n 2, 1) := by decide +kernel
theorem dX12_replaced_25 : decode cX12_replaced 25 = .ok (.aload_n 0, 1) := by decide +kernel
theorem dX12_replaced_26 : decode cX12_replaced 26 = .ok (.aload_n 0, 1) := by decide +kernel
theorem dX12_replaced_27 : decode cX12_replaced 27 = .ok (.getfield 299, 3) := by decide +kernel
theorem dX12_replaced_30 : decode cX12_replaced 30 = .ok (.bipush 30, 2) := by decide +kernel
theorem dX12_replaced_32 : decode cX12_replaced 32 = .ok (.iload_n 1, 1) := by decide +kernel
theorem dX12_replaced_33 : decode cX12_replaced 33 = .ok (.imul, 1) := by decide +kernel
theorem dX12_replaced_34 : decode cX12_replaced 34 = .ok (.iaload, 1) := by decide +kernel
theorem dX12_replaced_35 : decode cX12_replaced 35 = .ok (.iconst 2, 1) := by decide +kernel
theorem dX12_replaced_36 : decode cX12_replaced 36 = .ok (.invokevirtual 592, 3) := by decide +kernel
theorem dX12_replaced_39 : decode cX12_replaced 39 = .ok (.istore_n 3, 1) := by decide +kernel
theorem dX12_replaced_40 : decode cX12_replaced 40 = .ok (.iconst 0, 1) := by decide +kernel
theorem dX12_replaced_41 : decode cX12_replaced 41 = .ok (.istore 4, 2) := by decide +kernel
theorem dX12_replaced_43 : decode cX12_replaced 43 = .ok (.iload 4, 2) := by decide +kernel
theorem dX12_replaced_45 : decode cX12_replaced 45 = .ok (.aload_n 0, 1) := by decide +kernel
theorem dX12_replaced_46 : decode cX12_replaced 46 = .ok (.getfield 302, 3) := by decide +kernel
theorem dX12_replaced_49 : decode cX12_replaced 49 = .ok (.iload_n 1, 1) := by decide +kernel
theorem dX12_replaced_50 : decode cX12_replaced 50 = .ok (.iconst 1, 1) := by decide +kernel
theorem dX12_replaced_51 : decode cX12_replaced 51 = .ok (.iadd, 1) := by decide +kernel
theorem dX12_replaced_52 : decode cX12_replaced 52 = .ok (.iaload, 1) := by decide +kernel
theorem dX12_replaced_53 : decode cX12_replaced 53 = .ok (.if_icmp .ge 38, 3) := by decide +kernel
theorem dX12_replaced_56 : decode cX12_replaced 56 = .ok (.aload_n 0, 1) := by decide +kernel
theorem dX12_replaced_57 : decode cX12_replaced 57 = .ok (.iconst 0, 1) := by decide +kernel
theorem dX12_replaced_58 : decode cX12_replaced 58 = .ok (.putfield 495, 3) := by decide +kernel
theorem dX12_replaced_61 : decode cX12_replaced 61 = .ok (.aload_n 0, 1) := by decide +kernel
theorem dX12_replaced_62 : decode cX12_replaced 62 = .ok (.aload_n 0, 1) := by decide +kernel
theorem dX12_replaced_63 : decode cX12_replaced 63 = .ok (.aload_n 0, 1) := by decide +kernel
theorem dX12_replaced_64 : decode cX12_replaced 64 = .ok (.getfield 299, 3) := by decide +kernel
theorem dX12_replaced_67 : decode cX12_replaced 67 = .ok (.bipush 30, 2) := by decide +kernel
theorem dX12_replaced_69 : decode cX12_replaced 69 = .ok (.iload_n 1, 1) := by decide +kernel
theorem dX12_replaced_70 : decode cX12_replaced 70 = .ok (.iconst 1, 1) := by decide +kernel
theorem dX12_replaced_71 : decode cX12_replaced 71 = .ok (.iadd, 1) := by decide +kernel
theorem dX12_replaced_72 : decode cX12_replaced 72 = .ok (.imul, 1) := by decide +kernel
theorem dX12_replaced_73 : decode cX12_replaced 73 = .ok (.iload 4, 2) := by decide +kernel
theorem dX12_replaced_75 : decode cX12_replaced 75 = .ok (.iadd, 1) := by decide +kernel
theorem dX12_replaced_76 : decode cX12_replaced 76 = .ok (.iaload, 1) := by decide +kernel
theorem dX12_replaced_77 : decode cX12_replaced 77 = .ok (.iload_n 2, 1) := by decide +kernel
theorem dX12_replaced_78 : decode cX12_replaced 78 = .ok (.iload_n 3, 1) := by decide +kernel
theorem dX12_replaced_79 : decode cX12_replaced 79 = .ok (.invokevirtual 520, 3) := by decide +kernel
theorem dX12_replaced_82 : decode cX12_replaced 82 = .ok (.invokevirtual 739, 3) := by decide +kernel
theorem dX12_replaced_85 : decode cX12_replaced 85 = .ok (.iinc 4 1, 3) := by decide +kernel
theorem dX12_replaced_88 : decode cX12_replaced 88 = .ok (.goto (-45), 3) := by decide +kernel
theorem dX12_replaced_91 : decode cX12_replaced 91 = .ok (.aload_n 0, 1) := by decide +kernel
theorem dX12_replaced_92 : decode cX12_replaced 92 = .ok (.iload_n 1, 1) := by decide +kernel
theorem dX12_replaced_93 : decode cX12_replaced 93 = .ok (.aload_n 0, 1) := by decide +kernel
theorem dX12_replaced_94 : decode cX12_replaced 94 = .ok (.getfield 299, 3) := by decide +kernel
theorem dX12_replaced_97 : decode cX12_replaced 97 = .ok (.bipush 30, 2) := by decide +kernel
theorem dX12_replaced_99 : decode cX12_replaced 99 = .ok (.iload_n 1, 1) := by decide +kernel
theorem dX12_replaced_100 : decode cX12_replaced 100 = .ok (.imul, 1) := by decide +kernel
theorem dX12_replaced_101 : decode cX12_replaced 101 = .ok (.iaload, 1) := by decide +kernel
theorem dX12_replaced_102 : decode cX12_replaced 102 = .ok (.invokevirtual 944, 3) := by decide +kernel
theorem dX12_replaced_105 : decode cX12_replaced 105 = .ok (.iconst 1, 1) := by decide +kernel
theorem dX12_replaced_106 : decode cX12_replaced 106 = .ok (.ireturn, 1) := by decide +kernel

section
variable {p : Program} {l : Launch} {e : Env} {R : Room} {s : State} {m : MethodId} {args : Array Value} {below : List Frame} {meth : Method} {c : Code} {H : Heap} {locs : List Loc} {Qf : State → Prop}
variable {ls : Array Slot} {D : va_G} {ca : Nat → ClassId} {A : Nat → Prop} {h0 : Nat} {ad : Nat → Nat} {H0 : Heap} {u : iST}
def w_replaced_43b (R43 : Int → Int → Int → Int → iST → Prop) (Q : Int → iST → Prop) (x1 : Int) (x2 : Int) (x3 : Int) (x4 : Int) (u : iST) : Prop :=
  ov (x1 + 1) (
  bd (x1 + 1) 350 (rd (u.2.1 146 (x1 + 1)) (fun v9 => 
  br (v9 ≤ x4) (
    ov (30 * x1) (
    bd (30 * x1) 10500 (rd (u.2.1 145 (30 * x1)) (fun v11 => 
    w_pour x1 v11 (fun u => 
    zt 1 (Q 1 u)) u)))) (
    sw (iI u 74 0) (fun u => 
    ov (x1 + 1) (
    ov (30 * (x1 + 1)) (
    ov ((30 * (x1 + 1)) + x4) (
    bd ((30 * (x1 + 1)) + x4) 10500 (rd (u.2.1 145 ((30 * (x1 + 1)) + x4)) (fun v16 => 
    w_anew v16 x2 x3 (fun v17 u => 
    w_put v17 (fun u => 
    ov (x4 + 1) (
    R43 x1 x2 x3 (x4 + 1) u)) u) u))))))))))
def w_replaced_43 (Q : Int → iST → Prop) (x1 : Int) (x2 : Int) (x3 : Int) (x4 : Int) (u : iST) : Prop := ∀ R43 : Int → Int → Int → Int → iST → Prop, (∀ (x1 : Int) (x2 : Int) (x3 : Int) (x4 : Int) (u : iST), w_replaced_43b R43 Q x1 x2 x3 x4 u → R43 x1 x2 x3 x4 u) → R43 x1 x2 x3 x4 u
set_option maxRecDepth 20000 in
set_option maxHeartbeats 4000000 in
theorem b_replaced_43 (X : kX p m c cX12_replaced 5 s args D ca) (hRf : 5 ≤ R.frames) (hRl : 115 ≤ R.locals) {Q : Int → iST → Prop} (hret : ∀ (v : Int) (u : iST) (H : Heap) (locs : List Loc) (ls : Array Slot) (pc : Nat), bz v → Q v u → kW D ca A h0 ad H0 H locs u → decode cX12_replaced pc = .ok (.ireturn, 1) → W p l e R s m args below meth c H locs 0 0 Qf (F0 m pc ls [.int (jI v)])) {x1 x2 x3 x4 : Int} (rx1 : inR x1) (rx2 : inR x2) (rx3 : inR x3) (rx4 : inR x4) (hw : kW D ca A h0 ad H0 H locs u) (hl : lv_has ls 5 [(0, .ref h0), (1, .int (jI x1)), (2, .int (jI x2)), (3, .int (jI x3)), (4, .int (jI x4))]) (h : w_replaced_43 Q x1 x2 x3 x4 u) : W p l e R s m args below meth c H locs 0 0 Qf (F0 m 43 ls []) := by
  refine h (fun x1 x2 x3 x4 u => ∀ (H : Heap) (locs : List Loc) (ls : Array Slot), inR x1 → inR x2 → inR x3 → inR x4 → kW D ca A h0 ad H0 H locs u → lv_has ls 5 [(0, .ref h0), (1, .int (jI x1)), (2, .int (jI x2)), (3, .int (jI x3)), (4, .int (jI x4))] → W p l e R s m args below meth c H locs 0 0 Qf (F0 m 43 ls [])) ?_ H locs ls rx1 rx2 rx3 rx4 hw hl
  clear h hl hw rx1 rx2 rx3 rx4
  intro x1 x2 x3 x4 u h H locs ls rx1 rx2 rx3 rx4 hw hl
  have hR43 : ∀ (x1 : Int) (x2 : Int) (x3 : Int) (x4 : Int) (u : iST) (H : Heap) (locs : List Loc) (ls : Array Slot), inR x1 → inR x2 → inR x3 → inR x4 → kW D ca A h0 ad H0 H locs u → lv_has ls 5 [(0, .ref h0), (1, .int (jI x1)), (2, .int (jI x2)), (3, .int (jI x3)), (4, .int (jI x4))] → (fun (x1 : Int) (x2 : Int) (x3 : Int) (x4 : Int) u => ∀ (H : Heap) (locs : List Loc) (ls : Array Slot), inR x1 → inR x2 → inR x3 → inR x4 → kW D ca A h0 ad H0 H locs u → lv_has ls 5 [(0, .ref h0), (1, .int (jI x1)), (2, .int (jI x2)), (3, .int (jI x3)), (4, .int (jI x4))] → W p l e R s m args below meth c H locs 0 0 Qf (F0 m 43 ls [])) x1 x2 x3 x4 u → W p l e R s m args below meth c H locs 0 0 Qf (F0 m 43 ls []) := fun x1 x2 x3 x4 u H locs ls rx1 rx2 rx3 rx4 hw hl h => h H locs ls rx1 rx2 rx3 rx4 hw hl
  have hx := X.1.1
  have hb := X.1.2.1
  unfold w_replaced_43b at h
  refine lv_iload hx hb dX12_replaced_43 (lv_at hl 4 rfl) ?_
  refine lv_aload_n hx hb dX12_replaced_45 rfl (lv_at hl 0 rfl) ?_
  refine gA 146 302 (by decide) L_146 (fun _ _ => mF_146) rfl X hw dX12_replaced_46 ?_
  refine lv_iload_n hx hb dX12_replaced_49 rfl (lv_at hl 1 rfl) ?_
  refine lv_iconst hx hb dX12_replaced_50 (v := jI 1) rfl ?_
  refine k_iadd hx hb dX12_replaced_51 h (fun r8 h => ?_)
  refine aL 146 93 92 350 (fun _ _ _ _ => mG_146) (fun _ => rfl) X hw r8 dX12_replaced_52 rfl h (fun v9 rv9 h => ?_)
  refine k_icmp_ge hx hb rx4 rv9 dX12_replaced_53 (tgt := 91) rfl h (fun h => ?_) (fun h => ?_)
  · refine lv_aload_n hx hb dX12_replaced_91 rfl (lv_at hl 0 rfl) ?_
    refine lv_iload_n hx hb dX12_replaced_92 rfl (lv_at hl 1 rfl) ?_
    refine lv_aload_n hx hb dX12_replaced_93 rfl (lv_at hl 0 rfl) ?_
    refine gA 145 299 (by decide) L_145 (fun _ _ => mF_145) rfl X hw dX12_replaced_94 ?_
    refine lv_bipush hx hb dX12_replaced_97 (v := jI 30) rfl ?_
    refine lv_iload_n hx hb dX12_replaced_99 rfl (lv_at hl 1 rfl) ?_
    refine k_imul hx hb dX12_replaced_100 h (fun r10 h => ?_)
    refine aL 145 92 91 10500 (fun _ _ _ _ => mG_145) (fun _ => rfl) X hw r10 dX12_replaced_101 rfl h (fun v11 rv11 h => ?_)
    refine kcV (n := 2) (c_pour rx1 rv11 h) G_pour E_pour X hw (Nat.le_trans (Nat.le_of_ble_eq_true rfl) hRf) (Nat.le_trans (Nat.le_of_ble_eq_true rfl) hRl) rfl hl.1 (Nat.le_of_ble_eq_true rfl) rfl dX12_replaced_102 (fun u H locs h hw => ?_)
    refine lv_iconst hx hb dX12_replaced_105 (v := jI 1) rfl ?_
    exact hret _ _ _ _ _ _ h.1 h.2 hw dX12_replaced_106
  · refine lv_aload_n hx hb dX12_replaced_56 rfl (lv_at hl 0 rfl) ?_
    refine lv_iconst hx hb dX12_replaced_57 (v := jI 0) rfl ?_
    refine pS 74 495 (by decide) L_74 rfl rfl rfl (fun _ _ _ _ _ => mSI_74) (by decide) X hw (by decide) dX12_replaced_58 h (fun H locs u hw h => ?_)
    refine lv_aload_n hx hb dX12_replaced_61 rfl (lv_at hl 0 rfl) ?_
    refine lv_aload_n hx hb dX12_replaced_62 rfl (lv_at hl 0 rfl) ?_
    refine lv_aload_n hx hb dX12_replaced_63 rfl (lv_at hl 0 rfl) ?_
    refine gA 145 299 (by decide) L_145 (fun _ _ => mF_145) rfl X hw dX12_replaced_64 ?_
    refine lv_bipush hx hb dX12_replaced_67 (v := jI 30) rfl ?_
    refine lv_iload_n hx hb dX12_replaced_69 rfl (lv_at hl 1 rfl) ?_
    refine lv_iconst hx hb dX12_replaced_70 (v := jI 1) rfl ?_
    refine k_iadd hx hb dX12_replaced_71 h (fun r13 h => ?_)
    refine k_imul hx hb dX12_replaced_72 h (fun r14 h => ?_)
    refine lv_iload hx hb dX12_replaced_73 (lv_at hl 4 rfl) ?_
    refine k_iadd hx hb dX12_replaced_75 h (fun r15 h => ?_)
    refine aL 145 92 91 10500 (fun _ _ _ _ => mG_145) (fun _ => rfl) X hw r15 dX12_replaced_76 rfl h (fun v16 rv16 h => ?_)
    refine lv_iload_n hx hb dX12_replaced_77 rfl (lv_at hl 2 rfl) ?_
    refine lv_iload_n hx hb dX12_replaced_78 rfl (lv_at hl 3 rfl) ?_
    refine kcI (n := 3) (c_anew rv16 rx2 rx3 h) G_anew E_anew X hw (Nat.le_trans (Nat.le_of_ble_eq_true rfl) hRf) (Nat.le_trans (Nat.le_of_ble_eq_true rfl) hRl) rfl hl.1 (Nat.le_of_ble_eq_true rfl) rfl dX12_replaced_79 (fun v17 u H locs rv17 h hw => ?_)
    refine kcV (n := 1) (c_put rv17 h) G_put E_put X hw (Nat.le_trans (Nat.le_of_ble_eq_true rfl) hRf) (Nat.le_trans (Nat.le_of_ble_eq_true rfl) hRl) rfl hl.1 (Nat.le_of_ble_eq_true rfl) rfl dX12_replaced_82 (fun u H locs h hw => ?_)
    refine k_iinc (k := 4) hx hb dX12_replaced_85 hl rfl (by decide) rfl h (fun ls r19 h hl => ?_)
    have hl : lv_has ls 5 [(4, .int (jI (x4 + 1))), (0, .ref (h0)), (1, .int (jI x1)), (2, .int (jI x2)), (3, .int (jI x3))] := hl
    refine lv_goto hx hb dX12_replaced_88 (tgt := 43) rfl ?_
    exact hR43 _ _ _ _ _ H locs ls rx1 rx2 rx3 r19 hw (lv_sub hl [1, 2, 3, 4, 0] rfl) h

def w_replaced (a0 : Int) (Q : Int → iST → Prop) (u : iST) : Prop :=
  w_beginsEqual a0 (fun v1 u => 
  br (v1 ≠ 0) (
    ov (30 * a0) (
    bd (30 * a0) 10500 (rd (u.2.1 145 (30 * a0)) (fun v3 => 
    w_term v3 1 (fun v4 u => 
    ov (30 * a0) (
    bd (30 * a0) 10500 (rd (u.2.1 145 (30 * a0)) (fun v6 => 
    w_term v6 2 (fun v7 u => 
    w_replaced_43 Q a0 v4 v7 0 u) u)))) u)))) (
    zt 0 (Q 0 u))) u
set_option maxRecDepth 20000 in
set_option maxHeartbeats 4000000 in
theorem b_replaced_s (X : kX p m c cX12_replaced 5 s args D ca) (hRf : 5 ≤ R.frames) (hRl : 115 ≤ R.locals) {Q : Int → iST → Prop} (hret : ∀ (v : Int) (u : iST) (H : Heap) (locs : List Loc) (ls : Array Slot) (pc : Nat), bz v → Q v u → kW D ca A h0 ad H0 H locs u → decode cX12_replaced pc = .ok (.ireturn, 1) → W p l e R s m args below meth c H locs 0 0 Qf (F0 m pc ls [.int (jI v)])) {a0 : Int} (ra0 : inR a0) (hw : kW D ca A h0 ad H0 H locs u) (hl : lv_has ls 5 [(0, .ref h0), (1, .int (jI a0))]) (h : w_replaced a0 Q u) : W p l e R s m args below meth c H locs 0 0 Qf (F0 m 0 ls []) := by
  have hx := X.1.1
  have hb := X.1.2.1
  unfold w_replaced at h
  refine lv_aload_n hx hb dX12_replaced_0 rfl (lv_at hl 0 rfl) ?_
  refine lv_iload_n hx hb dX12_replaced_1 rfl (lv_at hl 1 rfl) ?_
  refine kcI (n := 1) (c_beginsEqual ra0 h) G_beginsEqual E_beginsEqual X hw (Nat.le_trans (Nat.le_of_ble_eq_true rfl) hRf) (Nat.le_trans (Nat.le_of_ble_eq_true rfl) hRl) rfl hl.1 (Nat.le_of_ble_eq_true rfl) rfl dX12_replaced_2 (fun v1 u H locs rv1 h hw => ?_)
  refine k_if_ne hx hb rv1 dX12_replaced_5 (tgt := 10) rfl h (fun h => ?_) (fun h => ?_)
  · refine lv_aload_n hx hb dX12_replaced_10 rfl (lv_at hl 0 rfl) ?_
    refine lv_aload_n hx hb dX12_replaced_11 rfl (lv_at hl 0 rfl) ?_
    refine gA 145 299 (by decide) L_145 (fun _ _ => mF_145) rfl X hw dX12_replaced_12 ?_
    refine lv_bipush hx hb dX12_replaced_15 (v := jI 30) rfl ?_
    refine lv_iload_n hx hb dX12_replaced_17 rfl (lv_at hl 1 rfl) ?_
    refine k_imul hx hb dX12_replaced_18 h (fun r2 h => ?_)
    refine aL 145 92 91 10500 (fun _ _ _ _ => mG_145) (fun _ => rfl) X hw r2 dX12_replaced_19 rfl h (fun v3 rv3 h => ?_)
    refine lv_iconst hx hb dX12_replaced_20 (v := jI 1) rfl ?_
    refine kcI (n := 2) (c_term rv3 (by decide) h) G_term E_term X hw (Nat.le_trans (Nat.le_of_ble_eq_true rfl) hRf) (Nat.le_trans (Nat.le_of_ble_eq_true rfl) hRl) rfl hl.1 (Nat.le_of_ble_eq_true rfl) rfl dX12_replaced_21 (fun v4 u H locs rv4 h hw => ?_)
    refine lv_istore_n hx hb dX12_replaced_24 rfl hl (by decide) rfl (fun ls hl => ?_)
    have hl : lv_has ls 5 [(2, .int (jI v4)), (0, .ref (h0)), (1, .int (jI a0))] := hl
    refine lv_aload_n hx hb dX12_replaced_25 rfl (lv_at hl 1 rfl) ?_
    refine lv_aload_n hx hb dX12_replaced_26 rfl (lv_at hl 1 rfl) ?_
    refine gA 145 299 (by decide) L_145 (fun _ _ => mF_145) rfl X hw dX12_replaced_27 ?_
    refine lv_bipush hx hb dX12_replaced_30 (v := jI 30) rfl ?_
    refine lv_iload_n hx hb dX12_replaced_32 rfl (lv_at hl 2 rfl) ?_
    refine k_imul hx hb dX12_replaced_33 h (fun r5 h => ?_)
    refine aL 145 92 91 10500 (fun _ _ _ _ => mG_145) (fun _ => rfl) X hw r5 dX12_replaced_34 rfl h (fun v6 rv6 h => ?_)
    refine lv_iconst hx hb dX12_replaced_35 (v := jI 2) rfl ?_
    refine kcI (n := 2) (c_term rv6 (by decide) h) G_term E_term X hw (Nat.le_trans (Nat.le_of_ble_eq_true rfl) hRf) (Nat.le_trans (Nat.le_of_ble_eq_true rfl) hRl) rfl hl.1 (Nat.le_of_ble_eq_true rfl) rfl dX12_replaced_36 (fun v7 u H locs rv7 h hw => ?_)
    refine lv_istore_n hx hb dX12_replaced_39 rfl hl (by decide) rfl (fun ls hl => ?_)
    have hl : lv_has ls 5 [(3, .int (jI v7)), (2, .int (jI v4)), (0, .ref (h0)), (1, .int (jI a0))] := hl
    refine lv_iconst hx hb dX12_replaced_40 (v := jI 0) rfl ?_
    refine lv_istore hx hb dX12_replaced_41 hl (by decide) rfl (fun ls hl => ?_)
    have hl : lv_has ls 5 [(4, .int (jI 0)), (3, .int (jI v7)), (2, .int (jI v4)), (0, .ref (h0)), (1, .int (jI a0))] := hl
    exact b_replaced_43 X hRf hRl hret ra0 rv4 rv7 (by decide) hw (lv_sub hl [3, 4, 2, 1, 0] rfl) h
  · refine lv_iconst hx hb dX12_replaced_8 (v := jI 0) rfl ?_
    exact hret _ _ _ _ _ _ h.1 h.2 hw dX12_replaced_9

end
theorem c_replaced {l : Launch} {a0 : Int} (ra0 : inR a0) {Q : Int → iST → Prop} {u : iST} (h : w_replaced a0 Q u) : kMI l yX12_replaced (.code yX12_replaced cX12_replaced 5 (some .boolean) :: wsM) { frames := 5, cells := 0, slots := 0, locals := 115 } [.int (jI a0)] Q u := kMZ_of rfl (fun _ => Nat.le_of_ble_eq_true rfl) (fun X hRf hRl hret hw hl => b_replaced_s X hRf hRl hret ra0 hw hl h)

/-! inducts -/
theorem dX12_inducts_0 : decode cX12_inducts 0 = .ok (.aload_n 0, 1) := by decide +kernel
theorem dX12_inducts_1 : decode cX12_inducts 1 = .ok (.iload_n 1, 1) := by decide +kernel
theorem dX12_inducts_2 : decode cX12_inducts 2 = .ok (.iconst 2, 1) := by decide +kernel
theorem dX12_inducts_3 : decode cX12_inducts 3 = .ok (.invokevirtual 471, 3) := by decide +kernel
theorem dX12_inducts_6 : decode cX12_inducts 6 = .ok (.istore 4, 2) := by decide +kernel
theorem dX12_inducts_8 : decode cX12_inducts 8 = .ok (.aload_n 0, 1) := by decide +kernel
theorem dX12_inducts_9 : decode cX12_inducts 9 = .ok (.aload_n 0, 1) := by decide +kernel
theorem dX12_inducts_10 : decode cX12_inducts 10 = .ok (.getfield 8, 3) := by decide +kernel
theorem dX12_inducts_13 : decode cX12_inducts 13 = .ok (.iload 4, 2) := by decide +kernel
theorem dX12_inducts_15 : decode cX12_inducts 15 = .ok (.iaload, 1) := by decide +kernel
theorem dX12_inducts_16 : decode cX12_inducts 16 = .ok (.invokevirtual 827, 3) := by decide +kernel
theorem dX12_inducts_19 : decode cX12_inducts 19 = .ok (.istore 5, 2) := by decide +kernel
theorem dX12_inducts_21 : decode cX12_inducts 21 = .ok (.aload_n 0, 1) := by decide +kernel
theorem dX12_inducts_22 : decode cX12_inducts 22 = .ok (.aload_n 0, 1) := by decide +kernel
theorem dX12_inducts_23 : decode cX12_inducts 23 = .ok (.getfield 87, 3) := by decide +kernel
theorem dX12_inducts_26 : decode cX12_inducts 26 = .ok (.iload 5, 2) := by decide +kernel
theorem dX12_inducts_28 : decode cX12_inducts 28 = .ok (.iaload, 1) := by decide +kernel
theorem dX12_inducts_29 : decode cX12_inducts 29 = .ok (.invokevirtual 821, 3) := by decide +kernel
theorem dX12_inducts_32 : decode cX12_inducts 32 = .ok (.iconst 0, 1) := by decide +kernel
theorem dX12_inducts_33 : decode cX12_inducts 33 = .ok (.istore 6, 2) := by decide +kernel
theorem dX12_inducts_35 : decode cX12_inducts 35 = .ok (.iload 6, 2) := by decide +kernel
theorem dX12_inducts_37 : decode cX12_inducts 37 = .ok (.aload_n 0, 1) := by decide +kernel
theorem dX12_inducts_38 : decode cX12_inducts 38 = .ok (.getfield 788, 3) := by decide +kernel
theorem dX12_inducts_41 : decode cX12_inducts 41 = .ok (.if_icmp .ge 136, 3) := by decide +kernel
theorem dX12_inducts_44 : decode cX12_inducts 44 = .ok (.aload_n 0, 1) := by decide +kernel
theorem dX12_inducts_45 : decode cX12_inducts 45 = .ok (.getfield 480, 3) := by decide +kernel
theorem dX12_inducts_48 : decode cX12_inducts 48 = .ok (.ifCond .ne 129, 3) := by decide +kernel
theorem dX12_inducts_51 : decode cX12_inducts 51 = .ok (.aload_n 0, 1) := by decide +kernel
theorem dX12_inducts_52 : decode cX12_inducts 52 = .ok (.iconst 0, 1) := by decide +kernel
theorem dX12_inducts_53 : decode cX12_inducts 53 = .ok (.putfield 727, 3) := by decide +kernel
theorem dX12_inducts_56 : decode cX12_inducts 56 = .ok (.aload_n 0, 1) := by decide +kernel
theorem dX12_inducts_57 : decode cX12_inducts 57 = .ok (.iload 5, 2) := by decide +kernel
theorem dX12_inducts_59 : decode cX12_inducts 59 = .ok (.aload_n 0, 1) := by decide +kernel
theorem dX12_inducts_60 : decode cX12_inducts 60 = .ok (.getfield 14, 3) := by decide +kernel
theorem dX12_inducts_63 : decode cX12_inducts 63 = .ok (.iload 4, 2) := by decide +kernel
theorem dX12_inducts_65 : decode cX12_inducts 65 = .ok (.iaload, 1) := by decide +kernel
theorem dX12_inducts_66 : decode cX12_inducts 66 = .ok (.iload 6, 2) := by decide +kernel
theorem dX12_inducts_68 : decode cX12_inducts 68 = .ok (.iload_n 3, 1) := by decide +kernel
theorem dX12_inducts_69 : decode cX12_inducts 69 = .ok (.invokevirtual 899, 3) := by decide +kernel
theorem dX12_inducts_72 : decode cX12_inducts 72 = .ok (.aload_n 0, 1) := by decide +kernel
theorem dX12_inducts_73 : decode cX12_inducts 73 = .ok (.invokevirtual 730, 3) := by decide +kernel
theorem dX12_inducts_76 : decode cX12_inducts 76 = .ok (.iconst 0, 1) := by decide +kernel
theorem dX12_inducts_77 : decode cX12_inducts 77 = .ok (.istore 7, 2) := by decide +kernel
theorem dX12_inducts_79 : decode cX12_inducts 79 = .ok (.iload 7, 2) := by decide +kernel
theorem dX12_inducts_81 : decode cX12_inducts 81 = .ok (.aload_n 0, 1) := by decide +kernel
theorem dX12_inducts_82 : decode cX12_inducts 82 = .ok (.getfield 302, 3) := by decide +kernel
theorem dX12_inducts_85 : decode cX12_inducts 85 = .ok (.iload_n 2, 1) := by decide +kernel
theorem dX12_inducts_86 : decode cX12_inducts 86 = .ok (.iload 6, 2) := by decide +kernel
theorem dX12_inducts_88 : decode cX12_inducts 88 = .ok (.iadd, 1) := by decide +kernel
theorem dX12_inducts_89 : decode cX12_inducts 89 = .ok (.iaload, 1) := by decide +kernel
theorem dX12_inducts_90 : decode cX12_inducts 90 = .ok (.if_icmp .ge 81, 3) := by decide +kernel
theorem dX12_inducts_93 : decode cX12_inducts 93 = .ok (.aload_n 0, 1) := by decide +kernel
theorem dX12_inducts_94 : decode cX12_inducts 94 = .ok (.getfield 480, 3) := by decide +kernel
theorem dX12_inducts_97 : decode cX12_inducts 97 = .ok (.ifCond .ne 74, 3) := by decide +kernel
theorem dX12_inducts_100 : decode cX12_inducts 100 = .ok (.iconst 0, 1) := by decide +kernel
theorem dX12_inducts_101 : decode cX12_inducts 101 = .ok (.istore 8, 2) := by decide +kernel
theorem dX12_inducts_103 : decode cX12_inducts 103 = .ok (.iconst 0, 1) := by decide +kernel
theorem dX12_inducts_104 : decode cX12_inducts 104 = .ok (.istore 9, 2) := by decide +kernel
theorem dX12_inducts_106 : decode cX12_inducts 106 = .ok (.iload 9, 2) := by decide +kernel
theorem dX12_inducts_108 : decode cX12_inducts 108 = .ok (.aload_n 0, 1) := by decide +kernel
theorem dX12_inducts_109 : decode cX12_inducts 109 = .ok (.getfield 727, 3) := by decide +kernel
theorem dX12_inducts_112 : decode cX12_inducts 112 = .ok (.if_icmp .ge 46, 3) := by decide +kernel
theorem dX12_inducts_115 : decode cX12_inducts 115 = .ok (.iload 8, 2) := by decide +kernel
theorem dX12_inducts_117 : decode cX12_inducts 117 = .ok (.ifCond .ne 28, 3) := by decide +kernel
theorem dX12_inducts_120 : decode cX12_inducts 120 = .ok (.aload_n 0, 1) := by decide +kernel
theorem dX12_inducts_121 : decode cX12_inducts 121 = .ok (.getfield 257, 3) := by decide +kernel
theorem dX12_inducts_124 : decode cX12_inducts 124 = .ok (.iload 9, 2) := by decide +kernel
theorem dX12_inducts_126 : decode cX12_inducts 126 = .ok (.iaload, 1) := by decide +kernel
theorem dX12_inducts_127 : decode cX12_inducts 127 = .ok (.aload_n 0, 1) := by decide +kernel
theorem dX12_inducts_128 : decode cX12_inducts 128 = .ok (.getfield 299, 3) := by decide +kernel
theorem dX12_inducts_131 : decode cX12_inducts 131 = .ok (.bipush 30, 2) := by decide +kernel
theorem dX12_inducts_133 : decode cX12_inducts 133 = .ok (.iload_n 2, 1) := by decide +kernel
theorem dX12_inducts_134 : decode cX12_inducts 134 = .ok (.iload 6, 2) := by decide +kernel
theorem dX12_inducts_136 : decode cX12_inducts 136 = .ok (.iadd, 1) := by decide +kernel
theorem dX12_inducts_137 : decode cX12_inducts 137 = .ok (.imul, 1) := by decide +kernel
theorem dX12_inducts_138 : decode cX12_inducts 138 = .ok (.iload 7, 2) := by decide +kernel
theorem dX12_inducts_140 : decode cX12_inducts 140 = .ok (.iadd, 1) := by decide +kernel
theorem dX12_inducts_141 : decode cX12_inducts 141 = .ok (.iaload, 1) := by decide +kernel
theorem dX12_inducts_142 : decode cX12_inducts 142 = .ok (.if_icmp .ne 7, 3) := by decide +kernel
theorem dX12_inducts_145 : decode cX12_inducts 145 = .ok (.iconst 1, 1) := by decide +kernel
theorem dX12_inducts_146 : decode cX12_inducts 146 = .ok (.goto 4, 3) := by decide +kernel
theorem dX12_inducts_149 : decode cX12_inducts 149 = .ok (.iconst 0, 1) := by decide +kernel
theorem dX12_inducts_150 : decode cX12_inducts 150 = .ok (.istore 8, 2) := by decide +kernel
theorem dX12_inducts_152 : decode cX12_inducts 152 = .ok (.iinc 9 1, 3) := by decide +kernel
theorem dX12_inducts_155 : decode cX12_inducts 155 = .ok (.goto (-49), 3) := by decide +kernel
theorem dX12_inducts_158 : decode cX12_inducts 158 = .ok (.iload 8, 2) := by decide +kernel
theorem dX12_inducts_160 : decode cX12_inducts 160 = .ok (.ifCond .ne 5, 3) := by decide +kernel
theorem dX12_inducts_163 : decode cX12_inducts 163 = .ok (.iconst 0, 1) := by decide +kernel
theorem dX12_inducts_164 : decode cX12_inducts 164 = .ok (.ireturn, 1) := by decide +kernel
theorem dX12_inducts_165 : decode cX12_inducts 165 = .ok (.iinc 7 1, 3) := by decide +kernel
theorem dX12_inducts_168 : decode cX12_inducts 168 = .ok (.goto (-89), 3) := by decide +kernel
theorem dX12_inducts_171 : decode cX12_inducts 171 = .ok (.iinc 6 1, 3) := by decide +kernel
theorem dX12_inducts_174 : decode cX12_inducts 174 = .ok (.goto (-139), 3) := by decide +kernel
theorem dX12_inducts_177 : decode cX12_inducts 177 = .ok (.aload_n 0, 1) := by decide +kernel
theorem dX12_inducts_178 : decode cX12_inducts 178 = .ok (.iconst 0, 1) := by decide +kernel
theorem dX12_inducts_179 : decode cX12_inducts 179 = .ok (.putfield 727, 3) := by decide +kernel
theorem dX12_inducts_182 : decode cX12_inducts 182 = .ok (.aload_n 0, 1) := by decide +kernel
theorem dX12_inducts_183 : decode cX12_inducts 183 = .ok (.iload_n 3, 1) := by decide +kernel
theorem dX12_inducts_184 : decode cX12_inducts 184 = .ok (.invokevirtual 739, 3) := by decide +kernel
theorem dX12_inducts_187 : decode cX12_inducts 187 = .ok (.iconst 1, 1) := by decide +kernel
theorem dX12_inducts_188 : decode cX12_inducts 188 = .ok (.ireturn, 1) := by decide +kernel

section
variable {p : Program} {l : Launch} {e : Env} {R : Room} {s : State} {m : MethodId} {args : Array Value} {below : List Frame} {meth : Method} {c : Code} {H : Heap} {locs : List Loc} {Qf : State → Prop}
variable {ls : Array Slot} {D : va_G} {ca : Nat → ClassId} {A : Nat → Prop} {h0 : Nat} {ad : Nat → Nat} {H0 : Heap} {u : iST}
def w_inducts_177 (Q : Int → iST → Prop) (x3 : Int) (u : iST) : Prop :=
  sw (iI u 122 0) (fun u => 
  w_put x3 (fun u => 
  zt 1 (Q 1 u)) u)
set_option maxRecDepth 20000 in
set_option maxHeartbeats 4000000 in
theorem b_inducts_177 (X : kX p m c cX12_inducts 10 s args D ca) (hRf : 7 ≤ R.frames) (hRl : 162 ≤ R.locals) {Q : Int → iST → Prop} (hret : ∀ (v : Int) (u : iST) (H : Heap) (locs : List Loc) (ls : Array Slot) (pc : Nat), bz v → Q v u → kW D ca A h0 ad H0 H locs u → decode cX12_inducts pc = .ok (.ireturn, 1) → W p l e R s m args below meth c H locs 0 0 Qf (F0 m pc ls [.int (jI v)])) {x3 : Int} (rx3 : inR x3) (hw : kW D ca A h0 ad H0 H locs u) (hl : lv_has ls 10 [(0, .ref h0), (3, .int (jI x3))]) (h : w_inducts_177 Q x3 u) : W p l e R s m args below meth c H locs 0 0 Qf (F0 m 177 ls []) := by
  have hx := X.1.1
  have hb := X.1.2.1
  unfold w_inducts_177 at h
  refine lv_aload_n hx hb dX12_inducts_177 rfl (lv_at hl 0 rfl) ?_
  refine lv_iconst hx hb dX12_inducts_178 (v := jI 0) rfl ?_
  refine pS 122 727 (by decide) L_122 rfl rfl rfl (fun _ _ _ _ _ => mSI_122) (by decide) X hw (by decide) dX12_inducts_179 h (fun H locs u hw h => ?_)
  refine lv_aload_n hx hb dX12_inducts_182 rfl (lv_at hl 0 rfl) ?_
  refine lv_iload_n hx hb dX12_inducts_183 rfl (lv_at hl 1 rfl) ?_
  refine kcV (n := 1) (c_put rx3 h) G_put E_put X hw (Nat.le_trans (Nat.le_of_ble_eq_true rfl) hRf) (Nat.le_trans (Nat.le_of_ble_eq_true rfl) hRl) rfl hl.1 (Nat.le_of_ble_eq_true rfl) rfl dX12_inducts_184 (fun u H locs h hw => ?_)
  refine lv_iconst hx hb dX12_inducts_187 (v := jI 1) rfl ?_
  exact hret _ _ _ _ _ _ h.1 h.2 hw dX12_inducts_188

def w_inducts_145 (R35 : Int → Int → Int → Int → Int → iST → Prop) (R79 : Int → Int → Int → Int → Int → Int → iST → Prop) (R106 : Int → Int → Int → Int → Int → Int → Int → Int → iST → Prop) (Q : Int → iST → Prop) (x2 : Int) (x3 : Int) (x4 : Int) (x5 : Int) (x6 : Int) (x7 : Int) (x9 : Int) (u : iST) : Prop :=
  ov (x9 + 1) (
  R106 x2 x3 x4 x5 x6 x7 1 (x9 + 1) u)
set_option maxRecDepth 20000 in
set_option maxHeartbeats 4000000 in
theorem b_inducts_145 (X : kX p m c cX12_inducts 10 s args D ca) (hRf : 7 ≤ R.frames) (hRl : 162 ≤ R.locals) {Q : Int → iST → Prop} (hret : ∀ (v : Int) (u : iST) (H : Heap) (locs : List Loc) (ls : Array Slot) (pc : Nat), bz v → Q v u → kW D ca A h0 ad H0 H locs u → decode cX12_inducts pc = .ok (.ireturn, 1) → W p l e R s m args below meth c H locs 0 0 Qf (F0 m pc ls [.int (jI v)])) {R35 : Int → Int → Int → Int → Int → iST → Prop} (hR35 : ∀ (x2 : Int) (x3 : Int) (x4 : Int) (x5 : Int) (x6 : Int) (u : iST) (H : Heap) (locs : List Loc) (ls : Array Slot), inR x2 → inR x3 → inR x4 → inR x5 → inR x6 → kW D ca A h0 ad H0 H locs u → lv_has ls 10 [(0, .ref h0), (2, .int (jI x2)), (3, .int (jI x3)), (4, .int (jI x4)), (5, .int (jI x5)), (6, .int (jI x6))] → R35 x2 x3 x4 x5 x6 u → W p l e R s m args below meth c H locs 0 0 Qf (F0 m 35 ls [])) {R79 : Int → Int → Int → Int → Int → Int → iST → Prop} (hR79 : ∀ (x2 : Int) (x3 : Int) (x4 : Int) (x5 : Int) (x6 : Int) (x7 : Int) (u : iST) (H : Heap) (locs : List Loc) (ls : Array Slot), inR x2 → inR x3 → inR x4 → inR x5 → inR x6 → inR x7 → kW D ca A h0 ad H0 H locs u → lv_has ls 10 [(0, .ref h0), (2, .int (jI x2)), (3, .int (jI x3)), (4, .int (jI x4)), (5, .int (jI x5)), (6, .int (jI x6)), (7, .int (jI x7))] → R79 x2 x3 x4 x5 x6 x7 u → W p l e R s m args below meth c H locs 0 0 Qf (F0 m 79 ls [])) {R106 : Int → Int → Int → Int → Int → Int → Int → Int → iST → Prop} (hR106 : ∀ (x2 : Int) (x3 : Int) (x4 : Int) (x5 : Int) (x6 : Int) (x7 : Int) (x8 : Int) (x9 : Int) (u : iST) (H : Heap) (locs : List Loc) (ls : Array Slot), inR x2 → inR x3 → inR x4 → inR x5 → inR x6 → inR x7 → inR x8 → inR x9 → kW D ca A h0 ad H0 H locs u → lv_has ls 10 [(0, .ref h0), (2, .int (jI x2)), (3, .int (jI x3)), (4, .int (jI x4)), (5, .int (jI x5)), (6, .int (jI x6)), (7, .int (jI x7)), (8, .int (jI x8)), (9, .int (jI x9))] → R106 x2 x3 x4 x5 x6 x7 x8 x9 u → W p l e R s m args below meth c H locs 0 0 Qf (F0 m 106 ls [])) {x2 x3 x4 x5 x6 x7 x9 : Int} (rx2 : inR x2) (rx3 : inR x3) (rx4 : inR x4) (rx5 : inR x5) (rx6 : inR x6) (rx7 : inR x7) (rx9 : inR x9) (hw : kW D ca A h0 ad H0 H locs u) (hl : lv_has ls 10 [(0, .ref h0), (2, .int (jI x2)), (3, .int (jI x3)), (4, .int (jI x4)), (5, .int (jI x5)), (6, .int (jI x6)), (7, .int (jI x7)), (9, .int (jI x9))]) (h : w_inducts_145 R35 R79 R106 Q x2 x3 x4 x5 x6 x7 x9 u) : W p l e R s m args below meth c H locs 0 0 Qf (F0 m 145 ls []) := by
  have hx := X.1.1
  have hb := X.1.2.1
  unfold w_inducts_145 at h
  refine lv_iconst hx hb dX12_inducts_145 (v := jI 1) rfl ?_
  refine lv_goto hx hb dX12_inducts_146 (tgt := 150) rfl ?_
  refine lv_istore hx hb dX12_inducts_150 hl (by decide) rfl (fun ls hl => ?_)
  have hl : lv_has ls 10 [(8, .int (jI 1)), (0, .ref (h0)), (2, .int (jI x2)), (3, .int (jI x3)), (4, .int (jI x4)), (5, .int (jI x5)), (6, .int (jI x6)), (7, .int (jI x7)), (9, .int (jI x9))] := hl
  refine k_iinc (k := 8) hx hb dX12_inducts_152 hl rfl (by decide) rfl h (fun ls r19 h hl => ?_)
  have hl : lv_has ls 10 [(9, .int (jI (x9 + 1))), (8, .int (jI 1)), (0, .ref (h0)), (2, .int (jI x2)), (3, .int (jI x3)), (4, .int (jI x4)), (5, .int (jI x5)), (6, .int (jI x6)), (7, .int (jI x7))] := hl
  refine lv_goto hx hb dX12_inducts_155 (tgt := 106) rfl ?_
  exact hR106 _ _ _ _ _ _ _ _ _ H locs ls rx2 rx3 rx4 rx5 rx6 rx7 (by decide) r19 hw (lv_sub hl [2, 3, 4, 5, 6, 7, 8, 1, 0] rfl) h

def w_inducts_106b (R35 : Int → Int → Int → Int → Int → iST → Prop) (R79 : Int → Int → Int → Int → Int → Int → iST → Prop) (R106 : Int → Int → Int → Int → Int → Int → Int → Int → iST → Prop) (Q : Int → iST → Prop) (x2 : Int) (x3 : Int) (x4 : Int) (x5 : Int) (x6 : Int) (x7 : Int) (x8 : Int) (x9 : Int) (u : iST) : Prop :=
  rd (u.1 122) (fun v17 => 
  br (v17 ≤ x9) (
    br (x8 ≠ 0) (
      ov (x7 + 1) (
      R79 x2 x3 x4 x5 x6 (x7 + 1) u)) (
      zt 0 (Q 0 u))) (
    br (x8 ≠ 0) (
      w_inducts_145 R35 R79 R106 Q x2 x3 x4 x5 x6 x7 x9 u) (
      bd x9 1200 (rd (u.2.1 121 x9) (fun v20 => 
      ov (x2 + x6) (
      ov (30 * (x2 + x6)) (
      ov ((30 * (x2 + x6)) + x7) (
      bd ((30 * (x2 + x6)) + x7) 10500 (rd (u.2.1 145 ((30 * (x2 + x6)) + x7)) (fun v24 => 
      br (v20 ≠ v24) (
        ov (x9 + 1) (
        R106 x2 x3 x4 x5 x6 x7 0 (x9 + 1) u)) (
        w_inducts_145 R35 R79 R106 Q x2 x3 x4 x5 x6 x7 x9 u)))))))))))
def w_inducts_106 (R35 : Int → Int → Int → Int → Int → iST → Prop) (R79 : Int → Int → Int → Int → Int → Int → iST → Prop) (Q : Int → iST → Prop) (x2 : Int) (x3 : Int) (x4 : Int) (x5 : Int) (x6 : Int) (x7 : Int) (x8 : Int) (x9 : Int) (u : iST) : Prop := ∀ R106 : Int → Int → Int → Int → Int → Int → Int → Int → iST → Prop, (∀ (x2 : Int) (x3 : Int) (x4 : Int) (x5 : Int) (x6 : Int) (x7 : Int) (x8 : Int) (x9 : Int) (u : iST), w_inducts_106b R35 R79 R106 Q x2 x3 x4 x5 x6 x7 x8 x9 u → R106 x2 x3 x4 x5 x6 x7 x8 x9 u) → R106 x2 x3 x4 x5 x6 x7 x8 x9 u
set_option maxRecDepth 20000 in
set_option maxHeartbeats 4000000 in
theorem b_inducts_106 (X : kX p m c cX12_inducts 10 s args D ca) (hRf : 7 ≤ R.frames) (hRl : 162 ≤ R.locals) {Q : Int → iST → Prop} (hret : ∀ (v : Int) (u : iST) (H : Heap) (locs : List Loc) (ls : Array Slot) (pc : Nat), bz v → Q v u → kW D ca A h0 ad H0 H locs u → decode cX12_inducts pc = .ok (.ireturn, 1) → W p l e R s m args below meth c H locs 0 0 Qf (F0 m pc ls [.int (jI v)])) {R35 : Int → Int → Int → Int → Int → iST → Prop} (hR35 : ∀ (x2 : Int) (x3 : Int) (x4 : Int) (x5 : Int) (x6 : Int) (u : iST) (H : Heap) (locs : List Loc) (ls : Array Slot), inR x2 → inR x3 → inR x4 → inR x5 → inR x6 → kW D ca A h0 ad H0 H locs u → lv_has ls 10 [(0, .ref h0), (2, .int (jI x2)), (3, .int (jI x3)), (4, .int (jI x4)), (5, .int (jI x5)), (6, .int (jI x6))] → R35 x2 x3 x4 x5 x6 u → W p l e R s m args below meth c H locs 0 0 Qf (F0 m 35 ls [])) {R79 : Int → Int → Int → Int → Int → Int → iST → Prop} (hR79 : ∀ (x2 : Int) (x3 : Int) (x4 : Int) (x5 : Int) (x6 : Int) (x7 : Int) (u : iST) (H : Heap) (locs : List Loc) (ls : Array Slot), inR x2 → inR x3 → inR x4 → inR x5 → inR x6 → inR x7 → kW D ca A h0 ad H0 H locs u → lv_has ls 10 [(0, .ref h0), (2, .int (jI x2)), (3, .int (jI x3)), (4, .int (jI x4)), (5, .int (jI x5)), (6, .int (jI x6)), (7, .int (jI x7))] → R79 x2 x3 x4 x5 x6 x7 u → W p l e R s m args below meth c H locs 0 0 Qf (F0 m 79 ls [])) {x2 x3 x4 x5 x6 x7 x8 x9 : Int} (rx2 : inR x2) (rx3 : inR x3) (rx4 : inR x4) (rx5 : inR x5) (rx6 : inR x6) (rx7 : inR x7) (rx8 : inR x8) (rx9 : inR x9) (hw : kW D ca A h0 ad H0 H locs u) (hl : lv_has ls 10 [(0, .ref h0), (2, .int (jI x2)), (3, .int (jI x3)), (4, .int (jI x4)), (5, .int (jI x5)), (6, .int (jI x6)), (7, .int (jI x7)), (8, .int (jI x8)), (9, .int (jI x9))]) (h : w_inducts_106 R35 R79 Q x2 x3 x4 x5 x6 x7 x8 x9 u) : W p l e R s m args below meth c H locs 0 0 Qf (F0 m 106 ls []) := by
  refine h (fun x2 x3 x4 x5 x6 x7 x8 x9 u => ∀ (H : Heap) (locs : List Loc) (ls : Array Slot), inR x2 → inR x3 → inR x4 → inR x5 → inR x6 → inR x7 → inR x8 → inR x9 → kW D ca A h0 ad H0 H locs u → lv_has ls 10 [(0, .ref h0), (2, .int (jI x2)), (3, .int (jI x3)), (4, .int (jI x4)), (5, .int (jI x5)), (6, .int (jI x6)), (7, .int (jI x7)), (8, .int (jI x8)), (9, .int (jI x9))] → W p l e R s m args below meth c H locs 0 0 Qf (F0 m 106 ls [])) ?_ H locs ls rx2 rx3 rx4 rx5 rx6 rx7 rx8 rx9 hw hl
  clear h hl hw rx2 rx3 rx4 rx5 rx6 rx7 rx8 rx9
  intro x2 x3 x4 x5 x6 x7 x8 x9 u h H locs ls rx2 rx3 rx4 rx5 rx6 rx7 rx8 rx9 hw hl
  have hR106 : ∀ (x2 : Int) (x3 : Int) (x4 : Int) (x5 : Int) (x6 : Int) (x7 : Int) (x8 : Int) (x9 : Int) (u : iST) (H : Heap) (locs : List Loc) (ls : Array Slot), inR x2 → inR x3 → inR x4 → inR x5 → inR x6 → inR x7 → inR x8 → inR x9 → kW D ca A h0 ad H0 H locs u → lv_has ls 10 [(0, .ref h0), (2, .int (jI x2)), (3, .int (jI x3)), (4, .int (jI x4)), (5, .int (jI x5)), (6, .int (jI x6)), (7, .int (jI x7)), (8, .int (jI x8)), (9, .int (jI x9))] → (fun (x2 : Int) (x3 : Int) (x4 : Int) (x5 : Int) (x6 : Int) (x7 : Int) (x8 : Int) (x9 : Int) u => ∀ (H : Heap) (locs : List Loc) (ls : Array Slot), inR x2 → inR x3 → inR x4 → inR x5 → inR x6 → inR x7 → inR x8 → inR x9 → kW D ca A h0 ad H0 H locs u → lv_has ls 10 [(0, .ref h0), (2, .int (jI x2)), (3, .int (jI x3)), (4, .int (jI x4)), (5, .int (jI x5)), (6, .int (jI x6)), (7, .int (jI x7)), (8, .int (jI x8)), (9, .int (jI x9))] → W p l e R s m args below meth c H locs 0 0 Qf (F0 m 106 ls [])) x2 x3 x4 x5 x6 x7 x8 x9 u → W p l e R s m args below meth c H locs 0 0 Qf (F0 m 106 ls []) := fun x2 x3 x4 x5 x6 x7 x8 x9 u H locs ls rx2 rx3 rx4 rx5 rx6 rx7 rx8 rx9 hw hl h => h H locs ls rx2 rx3 rx4 rx5 rx6 rx7 rx8 rx9 hw hl
  have hx := X.1.1
  have hb := X.1.2.1
  unfold w_inducts_106b at h
  refine lv_iload hx hb dX12_inducts_106 (lv_at hl 8 rfl) ?_
  refine lv_aload_n hx hb dX12_inducts_108 rfl (lv_at hl 0 rfl) ?_
  refine gS 122 727 (by decide) L_122 (fun _ _ => mF_122) rfl X hw dX12_inducts_109 h (fun v17 rv17 h => ?_)
  refine k_icmp_ge hx hb rx9 rv17 dX12_inducts_112 (tgt := 158) rfl h (fun h => ?_) (fun h => ?_)
  · refine lv_iload hx hb dX12_inducts_158 (lv_at hl 7 rfl) ?_
    refine k_if_ne hx hb rx8 dX12_inducts_160 (tgt := 165) rfl h (fun h => ?_) (fun h => ?_)
    · refine k_iinc (k := 6) hx hb dX12_inducts_165 hl rfl (by decide) rfl h (fun ls r18 h hl => ?_)
      have hl : lv_has ls 10 [(7, .int (jI (x7 + 1))), (0, .ref (h0)), (2, .int (jI x2)), (3, .int (jI x3)), (4, .int (jI x4)), (5, .int (jI x5)), (6, .int (jI x6)), (8, .int (jI x8)), (9, .int (jI x9))] := hl
      refine lv_goto hx hb dX12_inducts_168 (tgt := 79) rfl ?_
      exact hR79 _ _ _ _ _ _ _ H locs ls rx2 rx3 rx4 rx5 rx6 r18 hw (lv_sub hl [1, 2, 3, 4, 5, 6, 0] rfl) h
    · refine lv_iconst hx hb dX12_inducts_163 (v := jI 0) rfl ?_
      exact hret _ _ _ _ _ _ h.1 h.2 hw dX12_inducts_164
  · refine lv_iload hx hb dX12_inducts_115 (lv_at hl 7 rfl) ?_
    refine k_if_ne hx hb rx8 dX12_inducts_117 (tgt := 145) rfl h (fun h => ?_) (fun h => ?_)
    · exact b_inducts_145 X hRf hRl hret hR35 hR79 hR106 rx2 rx3 rx4 rx5 rx6 rx7 rx9 hw (lv_sub hl [0, 1, 2, 3, 4, 5, 6, 8] rfl) h
    · refine lv_aload_n hx hb dX12_inducts_120 rfl (lv_at hl 0 rfl) ?_
      refine gA 121 257 (by decide) L_121 (fun _ _ => mF_121) rfl X hw dX12_inducts_121 ?_
      refine lv_iload hx hb dX12_inducts_124 (lv_at hl 8 rfl) ?_
      refine aL 121 78 77 1200 (fun _ _ _ _ => mG_121) (fun _ => rfl) X hw rx9 dX12_inducts_126 rfl h (fun v20 rv20 h => ?_)
      refine lv_aload_n hx hb dX12_inducts_127 rfl (lv_at hl 0 rfl) ?_
      refine gA 145 299 (by decide) L_145 (fun _ _ => mF_145) rfl X hw dX12_inducts_128 ?_
      refine lv_bipush hx hb dX12_inducts_131 (v := jI 30) rfl ?_
      refine lv_iload_n hx hb dX12_inducts_133 rfl (lv_at hl 1 rfl) ?_
      refine lv_iload hx hb dX12_inducts_134 (lv_at hl 5 rfl) ?_
      refine k_iadd hx hb dX12_inducts_136 h (fun r21 h => ?_)
      refine k_imul hx hb dX12_inducts_137 h (fun r22 h => ?_)
      refine lv_iload hx hb dX12_inducts_138 (lv_at hl 6 rfl) ?_
      refine k_iadd hx hb dX12_inducts_140 h (fun r23 h => ?_)
      refine aL 145 92 91 10500 (fun _ _ _ _ => mG_145) (fun _ => rfl) X hw r23 dX12_inducts_141 rfl h (fun v24 rv24 h => ?_)
      refine k_icmp_ne hx hb rv20 rv24 dX12_inducts_142 (tgt := 149) rfl h (fun h => ?_) (fun h => ?_)
      · refine lv_iconst hx hb dX12_inducts_149 (v := jI 0) rfl ?_
        refine lv_istore hx hb dX12_inducts_150 hl (by decide) rfl (fun ls hl => ?_)
        have hl : lv_has ls 10 [(8, .int (jI 0)), (0, .ref (h0)), (2, .int (jI x2)), (3, .int (jI x3)), (4, .int (jI x4)), (5, .int (jI x5)), (6, .int (jI x6)), (7, .int (jI x7)), (9, .int (jI x9))] := hl
        refine k_iinc (k := 8) hx hb dX12_inducts_152 hl rfl (by decide) rfl h (fun ls r25 h hl => ?_)
        have hl : lv_has ls 10 [(9, .int (jI (x9 + 1))), (8, .int (jI 0)), (0, .ref (h0)), (2, .int (jI x2)), (3, .int (jI x3)), (4, .int (jI x4)), (5, .int (jI x5)), (6, .int (jI x6)), (7, .int (jI x7))] := hl
        refine lv_goto hx hb dX12_inducts_155 (tgt := 106) rfl ?_
        exact hR106 _ _ _ _ _ _ _ _ _ H locs ls rx2 rx3 rx4 rx5 rx6 rx7 (by decide) r25 hw (lv_sub hl [2, 3, 4, 5, 6, 7, 8, 1, 0] rfl) h
      · exact b_inducts_145 X hRf hRl hret hR35 hR79 hR106 rx2 rx3 rx4 rx5 rx6 rx7 rx9 hw (lv_sub hl [0, 1, 2, 3, 4, 5, 6, 8] rfl) h

def w_inducts_79b (R35 : Int → Int → Int → Int → Int → iST → Prop) (R79 : Int → Int → Int → Int → Int → Int → iST → Prop) (Q : Int → iST → Prop) (x2 : Int) (x3 : Int) (x4 : Int) (x5 : Int) (x6 : Int) (x7 : Int) (u : iST) : Prop :=
  ov (x2 + x6) (
  bd (x2 + x6) 350 (rd (u.2.1 146 (x2 + x6)) (fun v13 => 
  br (v13 ≤ x7) (
    ov (x6 + 1) (
    R35 x2 x3 x4 x5 (x6 + 1) u)) (
    rd (u.1 61) (fun v15 => 
    br (v15 ≠ 0) (
      ov (x6 + 1) (
      R35 x2 x3 x4 x5 (x6 + 1) u)) (
      w_inducts_106 R35 R79 Q x2 x3 x4 x5 x6 x7 0 0 u))))))
def w_inducts_79 (R35 : Int → Int → Int → Int → Int → iST → Prop) (Q : Int → iST → Prop) (x2 : Int) (x3 : Int) (x4 : Int) (x5 : Int) (x6 : Int) (x7 : Int) (u : iST) : Prop := ∀ R79 : Int → Int → Int → Int → Int → Int → iST → Prop, (∀ (x2 : Int) (x3 : Int) (x4 : Int) (x5 : Int) (x6 : Int) (x7 : Int) (u : iST), w_inducts_79b R35 R79 Q x2 x3 x4 x5 x6 x7 u → R79 x2 x3 x4 x5 x6 x7 u) → R79 x2 x3 x4 x5 x6 x7 u
set_option maxRecDepth 20000 in
set_option maxHeartbeats 4000000 in
theorem b_inducts_79 (X : kX p m c cX12_inducts 10 s args D ca) (hRf : 7 ≤ R.frames) (hRl : 162 ≤ R.locals) {Q : Int → iST → Prop} (hret : ∀ (v : Int) (u : iST) (H : Heap) (locs : List Loc) (ls : Array Slot) (pc : Nat), bz v → Q v u → kW D ca A h0 ad H0 H locs u → decode cX12_inducts pc = .ok (.ireturn, 1) → W p l e R s m args below meth c H locs 0 0 Qf (F0 m pc ls [.int (jI v)])) {R35 : Int → Int → Int → Int → Int → iST → Prop} (hR35 : ∀ (x2 : Int) (x3 : Int) (x4 : Int) (x5 : Int) (x6 : Int) (u : iST) (H : Heap) (locs : List Loc) (ls : Array Slot), inR x2 → inR x3 → inR x4 → inR x5 → inR x6 → kW D ca A h0 ad H0 H locs u → lv_has ls 10 [(0, .ref h0), (2, .int (jI x2)), (3, .int (jI x3)), (4, .int (jI x4)), (5, .int (jI x5)), (6, .int (jI x6))] → R35 x2 x3 x4 x5 x6 u → W p l e R s m args below meth c H locs 0 0 Qf (F0 m 35 ls [])) {x2 x3 x4 x5 x6 x7 : Int} (rx2 : inR x2) (rx3 : inR x3) (rx4 : inR x4) (rx5 : inR x5) (rx6 : inR x6) (rx7 : inR x7) (hw : kW D ca A h0 ad H0 H locs u) (hl : lv_has ls 10 [(0, .ref h0), (2, .int (jI x2)), (3, .int (jI x3)), (4, .int (jI x4)), (5, .int (jI x5)), (6, .int (jI x6)), (7, .int (jI x7))]) (h : w_inducts_79 R35 Q x2 x3 x4 x5 x6 x7 u) : W p l e R s m args below meth c H locs 0 0 Qf (F0 m 79 ls []) := by
  refine h (fun x2 x3 x4 x5 x6 x7 u => ∀ (H : Heap) (locs : List Loc) (ls : Array Slot), inR x2 → inR x3 → inR x4 → inR x5 → inR x6 → inR x7 → kW D ca A h0 ad H0 H locs u → lv_has ls 10 [(0, .ref h0), (2, .int (jI x2)), (3, .int (jI x3)), (4, .int (jI x4)), (5, .int (jI x5)), (6, .int (jI x6)), (7, .int (jI x7))] → W p l e R s m args below meth c H locs 0 0 Qf (F0 m 79 ls [])) ?_ H locs ls rx2 rx3 rx4 rx5 rx6 rx7 hw hl
  clear h hl hw rx2 rx3 rx4 rx5 rx6 rx7
  intro x2 x3 x4 x5 x6 x7 u h H locs ls rx2 rx3 rx4 rx5 rx6 rx7 hw hl
  have hR79 : ∀ (x2 : Int) (x3 : Int) (x4 : Int) (x5 : Int) (x6 : Int) (x7 : Int) (u : iST) (H : Heap) (locs : List Loc) (ls : Array Slot), inR x2 → inR x3 → inR x4 → inR x5 → inR x6 → inR x7 → kW D ca A h0 ad H0 H locs u → lv_has ls 10 [(0, .ref h0), (2, .int (jI x2)), (3, .int (jI x3)), (4, .int (jI x4)), (5, .int (jI x5)), (6, .int (jI x6)), (7, .int (jI x7))] → (fun (x2 : Int) (x3 : Int) (x4 : Int) (x5 : Int) (x6 : Int) (x7 : Int) u => ∀ (H : Heap) (locs : List Loc) (ls : Array Slot), inR x2 → inR x3 → inR x4 → inR x5 → inR x6 → inR x7 → kW D ca A h0 ad H0 H locs u → lv_has ls 10 [(0, .ref h0), (2, .int (jI x2)), (3, .int (jI x3)), (4, .int (jI x4)), (5, .int (jI x5)), (6, .int (jI x6)), (7, .int (jI x7))] → W p l e R s m args below meth c H locs 0 0 Qf (F0 m 79 ls [])) x2 x3 x4 x5 x6 x7 u → W p l e R s m args below meth c H locs 0 0 Qf (F0 m 79 ls []) := fun x2 x3 x4 x5 x6 x7 u H locs ls rx2 rx3 rx4 rx5 rx6 rx7 hw hl h => h H locs ls rx2 rx3 rx4 rx5 rx6 rx7 hw hl
  have hx := X.1.1
  have hb := X.1.2.1
  unfold w_inducts_79b at h
  refine lv_iload hx hb dX12_inducts_79 (lv_at hl 6 rfl) ?_
  refine lv_aload_n hx hb dX12_inducts_81 rfl (lv_at hl 0 rfl) ?_
  refine gA 146 302 (by decide) L_146 (fun _ _ => mF_146) rfl X hw dX12_inducts_82 ?_
  refine lv_iload_n hx hb dX12_inducts_85 rfl (lv_at hl 1 rfl) ?_
  refine lv_iload hx hb dX12_inducts_86 (lv_at hl 5 rfl) ?_
  refine k_iadd hx hb dX12_inducts_88 h (fun r12 h => ?_)
  refine aL 146 93 92 350 (fun _ _ _ _ => mG_146) (fun _ => rfl) X hw r12 dX12_inducts_89 rfl h (fun v13 rv13 h => ?_)
  refine k_icmp_ge hx hb rx7 rv13 dX12_inducts_90 (tgt := 171) rfl h (fun h => ?_) (fun h => ?_)
  · refine k_iinc (k := 5) hx hb dX12_inducts_171 hl rfl (by decide) rfl h (fun ls r14 h hl => ?_)
    have hl : lv_has ls 10 [(6, .int (jI (x6 + 1))), (0, .ref (h0)), (2, .int (jI x2)), (3, .int (jI x3)), (4, .int (jI x4)), (5, .int (jI x5)), (7, .int (jI x7))] := hl
    refine lv_goto hx hb dX12_inducts_174 (tgt := 35) rfl ?_
    exact hR35 _ _ _ _ _ _ H locs ls rx2 rx3 rx4 rx5 r14 hw (lv_sub hl [1, 2, 3, 4, 5, 0] rfl) h
  · refine lv_aload_n hx hb dX12_inducts_93 rfl (lv_at hl 0 rfl) ?_
    refine gS 61 480 (by decide) L_61 (fun _ _ => mF_61) rfl X hw dX12_inducts_94 h (fun v15 rv15 h => ?_)
    refine k_if_ne hx hb rv15 dX12_inducts_97 (tgt := 171) rfl h (fun h => ?_) (fun h => ?_)
    · refine k_iinc (k := 5) hx hb dX12_inducts_171 hl rfl (by decide) rfl h (fun ls r16 h hl => ?_)
      have hl : lv_has ls 10 [(6, .int (jI (x6 + 1))), (0, .ref (h0)), (2, .int (jI x2)), (3, .int (jI x3)), (4, .int (jI x4)), (5, .int (jI x5)), (7, .int (jI x7))] := hl
      refine lv_goto hx hb dX12_inducts_174 (tgt := 35) rfl ?_
      exact hR35 _ _ _ _ _ _ H locs ls rx2 rx3 rx4 rx5 r16 hw (lv_sub hl [1, 2, 3, 4, 5, 0] rfl) h
    · refine lv_iconst hx hb dX12_inducts_100 (v := jI 0) rfl ?_
      refine lv_istore hx hb dX12_inducts_101 hl (by decide) rfl (fun ls hl => ?_)
      have hl : lv_has ls 10 [(8, .int (jI 0)), (0, .ref (h0)), (2, .int (jI x2)), (3, .int (jI x3)), (4, .int (jI x4)), (5, .int (jI x5)), (6, .int (jI x6)), (7, .int (jI x7))] := hl
      refine lv_iconst hx hb dX12_inducts_103 (v := jI 0) rfl ?_
      refine lv_istore hx hb dX12_inducts_104 hl (by decide) rfl (fun ls hl => ?_)
      have hl : lv_has ls 10 [(9, .int (jI 0)), (8, .int (jI 0)), (0, .ref (h0)), (2, .int (jI x2)), (3, .int (jI x3)), (4, .int (jI x4)), (5, .int (jI x5)), (6, .int (jI x6)), (7, .int (jI x7))] := hl
      exact b_inducts_106 X hRf hRl hret hR35 hR79 rx2 rx3 rx4 rx5 rx6 rx7 (by decide) (by decide) hw (lv_sub hl [2, 3, 4, 5, 6, 7, 8, 1, 0] rfl) h

def w_inducts_35b (R35 : Int → Int → Int → Int → Int → iST → Prop) (Q : Int → iST → Prop) (x2 : Int) (x3 : Int) (x4 : Int) (x5 : Int) (x6 : Int) (u : iST) : Prop :=
  rd (u.1 126) (fun v6 => 
  br (v6 ≤ x6) (
    w_inducts_177 Q x3 u) (
    rd (u.1 61) (fun v8 => 
    br (v8 ≠ 0) (
      w_inducts_177 Q x3 u) (
      sw (iI u 122 0) (fun u => 
      bd x4 452000 (rd (u.2.1 1 x4) (fun v9 => 
      w_inductionRow x5 v9 x6 x3 (fun u => 
      w_bounded (fun u => 
      w_inducts_79 R35 Q x2 x3 x4 x5 x6 0 u) u) u)))))))
def w_inducts_35 (Q : Int → iST → Prop) (x2 : Int) (x3 : Int) (x4 : Int) (x5 : Int) (x6 : Int) (u : iST) : Prop := ∀ R35 : Int → Int → Int → Int → Int → iST → Prop, (∀ (x2 : Int) (x3 : Int) (x4 : Int) (x5 : Int) (x6 : Int) (u : iST), w_inducts_35b R35 Q x2 x3 x4 x5 x6 u → R35 x2 x3 x4 x5 x6 u) → R35 x2 x3 x4 x5 x6 u
set_option maxRecDepth 20000 in
set_option maxHeartbeats 4000000 in
theorem b_inducts_35 (X : kX p m c cX12_inducts 10 s args D ca) (hRf : 7 ≤ R.frames) (hRl : 162 ≤ R.locals) {Q : Int → iST → Prop} (hret : ∀ (v : Int) (u : iST) (H : Heap) (locs : List Loc) (ls : Array Slot) (pc : Nat), bz v → Q v u → kW D ca A h0 ad H0 H locs u → decode cX12_inducts pc = .ok (.ireturn, 1) → W p l e R s m args below meth c H locs 0 0 Qf (F0 m pc ls [.int (jI v)])) {x2 x3 x4 x5 x6 : Int} (rx2 : inR x2) (rx3 : inR x3) (rx4 : inR x4) (rx5 : inR x5) (rx6 : inR x6) (hw : kW D ca A h0 ad H0 H locs u) (hl : lv_has ls 10 [(0, .ref h0), (2, .int (jI x2)), (3, .int (jI x3)), (4, .int (jI x4)), (5, .int (jI x5)), (6, .int (jI x6))]) (h : w_inducts_35 Q x2 x3 x4 x5 x6 u) : W p l e R s m args below meth c H locs 0 0 Qf (F0 m 35 ls []) := by
  refine h (fun x2 x3 x4 x5 x6 u => ∀ (H : Heap) (locs : List Loc) (ls : Array Slot), inR x2 → inR x3 → inR x4 → inR x5 → inR x6 → kW D ca A h0 ad H0 H locs u → lv_has ls 10 [(0, .ref h0), (2, .int (jI x2)), (3, .int (jI x3)), (4, .int (jI x4)), (5, .int (jI x5)), (6, .int (jI x6))] → W p l e R s m args below meth c H locs 0 0 Qf (F0 m 35 ls [])) ?_ H locs ls rx2 rx3 rx4 rx5 rx6 hw hl
  clear h hl hw rx2 rx3 rx4 rx5 rx6
  intro x2 x3 x4 x5 x6 u h H locs ls rx2 rx3 rx4 rx5 rx6 hw hl
  have hR35 : ∀ (x2 : Int) (x3 : Int) (x4 : Int) (x5 : Int) (x6 : Int) (u : iST) (H : Heap) (locs : List Loc) (ls : Array Slot), inR x2 → inR x3 → inR x4 → inR x5 → inR x6 → kW D ca A h0 ad H0 H locs u → lv_has ls 10 [(0, .ref h0), (2, .int (jI x2)), (3, .int (jI x3)), (4, .int (jI x4)), (5, .int (jI x5)), (6, .int (jI x6))] → (fun (x2 : Int) (x3 : Int) (x4 : Int) (x5 : Int) (x6 : Int) u => ∀ (H : Heap) (locs : List Loc) (ls : Array Slot), inR x2 → inR x3 → inR x4 → inR x5 → inR x6 → kW D ca A h0 ad H0 H locs u → lv_has ls 10 [(0, .ref h0), (2, .int (jI x2)), (3, .int (jI x3)), (4, .int (jI x4)), (5, .int (jI x5)), (6, .int (jI x6))] → W p l e R s m args below meth c H locs 0 0 Qf (F0 m 35 ls [])) x2 x3 x4 x5 x6 u → W p l e R s m args below meth c H locs 0 0 Qf (F0 m 35 ls []) := fun x2 x3 x4 x5 x6 u H locs ls rx2 rx3 rx4 rx5 rx6 hw hl h => h H locs ls rx2 rx3 rx4 rx5 rx6 hw hl
  have hx := X.1.1
  have hb := X.1.2.1
  unfold w_inducts_35b at h
  refine lv_iload hx hb dX12_inducts_35 (lv_at hl 5 rfl) ?_
  refine lv_aload_n hx hb dX12_inducts_37 rfl (lv_at hl 0 rfl) ?_
  refine gS 126 788 (by decide) L_126 (fun _ _ => mF_126) rfl X hw dX12_inducts_38 h (fun v6 rv6 h => ?_)
  refine k_icmp_ge hx hb rx6 rv6 dX12_inducts_41 (tgt := 177) rfl h (fun h => ?_) (fun h => ?_)
  · exact b_inducts_177 X hRf hRl hret rx3 hw (lv_sub hl [0, 2] rfl) h
  · refine lv_aload_n hx hb dX12_inducts_44 rfl (lv_at hl 0 rfl) ?_
    refine gS 61 480 (by decide) L_61 (fun _ _ => mF_61) rfl X hw dX12_inducts_45 h (fun v8 rv8 h => ?_)
    refine k_if_ne hx hb rv8 dX12_inducts_48 (tgt := 177) rfl h (fun h => ?_) (fun h => ?_)
    · exact b_inducts_177 X hRf hRl hret rx3 hw (lv_sub hl [0, 2] rfl) h
    · refine lv_aload_n hx hb dX12_inducts_51 rfl (lv_at hl 0 rfl) ?_
      refine lv_iconst hx hb dX12_inducts_52 (v := jI 0) rfl ?_
      refine pS 122 727 (by decide) L_122 rfl rfl rfl (fun _ _ _ _ _ => mSI_122) (by decide) X hw (by decide) dX12_inducts_53 h (fun H locs u hw h => ?_)
      refine lv_aload_n hx hb dX12_inducts_56 rfl (lv_at hl 0 rfl) ?_
      refine lv_iload hx hb dX12_inducts_57 (lv_at hl 4 rfl) ?_
      refine lv_aload_n hx hb dX12_inducts_59 rfl (lv_at hl 0 rfl) ?_
      refine gA 1 14 (by decide) L_1 (fun _ _ => mF_1) rfl X hw dX12_inducts_60 ?_
      refine lv_iload hx hb dX12_inducts_63 (lv_at hl 3 rfl) ?_
      refine aL 1 2 1 452000 (fun _ _ _ _ => mG_1) (fun _ => rfl) X hw rx4 dX12_inducts_65 rfl h (fun v9 rv9 h => ?_)
      refine lv_iload hx hb dX12_inducts_66 (lv_at hl 5 rfl) ?_
      refine lv_iload_n hx hb dX12_inducts_68 rfl (lv_at hl 2 rfl) ?_
      refine kcV (n := 4) (c_inductionRow rx5 rv9 rx6 rx3 h) G_inductionRow E_inductionRow X hw (Nat.le_trans (Nat.le_of_ble_eq_true rfl) hRf) (Nat.le_trans (Nat.le_of_ble_eq_true rfl) hRl) rfl hl.1 (Nat.le_of_ble_eq_true rfl) rfl dX12_inducts_69 (fun u H locs h hw => ?_)
      refine lv_aload_n hx hb dX12_inducts_72 rfl (lv_at hl 0 rfl) ?_
      refine kcV (n := 0) (c_bounded h) G_bounded E_bounded X hw (Nat.le_trans (Nat.le_of_ble_eq_true rfl) hRf) (Nat.le_trans (Nat.le_of_ble_eq_true rfl) hRl) rfl hl.1 (Nat.le_of_ble_eq_true rfl) rfl dX12_inducts_73 (fun u H locs h hw => ?_)
      refine lv_iconst hx hb dX12_inducts_76 (v := jI 0) rfl ?_
      refine lv_istore hx hb dX12_inducts_77 hl (by decide) rfl (fun ls hl => ?_)
      have hl : lv_has ls 10 [(7, .int (jI 0)), (0, .ref (h0)), (2, .int (jI x2)), (3, .int (jI x3)), (4, .int (jI x4)), (5, .int (jI x5)), (6, .int (jI x6))] := hl
      exact b_inducts_79 X hRf hRl hret hR35 rx2 rx3 rx4 rx5 rx6 (by decide) hw (lv_sub hl [1, 2, 3, 4, 5, 6, 0] rfl) h

def w_inducts (a0 : Int) (a1 : Int) (a2 : Int) (Q : Int → iST → Prop) (u : iST) : Prop :=
  w_nth a0 2 (fun v1 u => 
  bd v1 452000 (rd (u.2.1 0 v1) (fun v2 => 
  w_definition v2 (fun v3 u => 
  bd v3 40 (rd (u.2.1 39 v3) (fun v4 => 
  w_pathsOf v4 (fun u => 
  w_inducts_35 Q a1 a2 v1 v3 0 u) u))) u))) u
set_option maxRecDepth 20000 in
set_option maxHeartbeats 4000000 in
theorem b_inducts_s (X : kX p m c cX12_inducts 10 s args D ca) (hRf : 7 ≤ R.frames) (hRl : 162 ≤ R.locals) {Q : Int → iST → Prop} (hret : ∀ (v : Int) (u : iST) (H : Heap) (locs : List Loc) (ls : Array Slot) (pc : Nat), bz v → Q v u → kW D ca A h0 ad H0 H locs u → decode cX12_inducts pc = .ok (.ireturn, 1) → W p l e R s m args below meth c H locs 0 0 Qf (F0 m pc ls [.int (jI v)])) {a0 a1 a2 : Int} (ra0 : inR a0) (ra1 : inR a1) (ra2 : inR a2) (hw : kW D ca A h0 ad H0 H locs u) (hl : lv_has ls 10 [(0, .ref h0), (1, .int (jI a0)), (2, .int (jI a1)), (3, .int (jI a2))]) (h : w_inducts a0 a1 a2 Q u) : W p l e R s m args below meth c H locs 0 0 Qf (F0 m 0 ls []) := by
  have hx := X.1.1
  have hb := X.1.2.1
  unfold w_inducts at h
  refine lv_aload_n hx hb dX12_inducts_0 rfl (lv_at hl 0 rfl) ?_
  refine lv_iload_n hx hb dX12_inducts_1 rfl (lv_at hl 1 rfl) ?_
  refine lv_iconst hx hb dX12_inducts_2 (v := jI 2) rfl ?_
  refine kcI (n := 2) (c_nth ra0 (by decide) h) G_nth E_nth X hw (Nat.le_trans (Nat.le_of_ble_eq_true rfl) hRf) (Nat.le_trans (Nat.le_of_ble_eq_true rfl) hRl) rfl hl.1 (Nat.le_of_ble_eq_true rfl) rfl dX12_inducts_3 (fun v1 u H locs rv1 h hw => ?_)
  refine lv_istore hx hb dX12_inducts_6 hl (by decide) rfl (fun ls hl => ?_)
  have hl : lv_has ls 10 [(4, .int (jI v1)), (0, .ref (h0)), (1, .int (jI a0)), (2, .int (jI a1)), (3, .int (jI a2))] := hl
  refine lv_aload_n hx hb dX12_inducts_8 rfl (lv_at hl 1 rfl) ?_
  refine lv_aload_n hx hb dX12_inducts_9 rfl (lv_at hl 1 rfl) ?_
  refine gA 0 8 (by decide) L_0 (fun _ _ => mF_0) rfl X hw dX12_inducts_10 ?_
  refine lv_iload hx hb dX12_inducts_13 (lv_at hl 0 rfl) ?_
  refine aL 0 1 0 452000 (fun _ _ _ _ => mG_0) (fun _ => rfl) X hw rv1 dX12_inducts_15 rfl h (fun v2 rv2 h => ?_)
  refine kcI (n := 1) (c_definition rv2 h) G_definition E_definition X hw (Nat.le_trans (Nat.le_of_ble_eq_true rfl) hRf) (Nat.le_trans (Nat.le_of_ble_eq_true rfl) hRl) rfl hl.1 (Nat.le_of_ble_eq_true rfl) rfl dX12_inducts_16 (fun v3 u H locs rv3 h hw => ?_)
  refine lv_istore hx hb dX12_inducts_19 hl (by decide) rfl (fun ls hl => ?_)
  have hl : lv_has ls 10 [(5, .int (jI v3)), (4, .int (jI v1)), (0, .ref (h0)), (1, .int (jI a0)), (2, .int (jI a1)), (3, .int (jI a2))] := hl
  refine lv_aload_n hx hb dX12_inducts_21 rfl (lv_at hl 2 rfl) ?_
  refine lv_aload_n hx hb dX12_inducts_22 rfl (lv_at hl 2 rfl) ?_
  refine gA 39 87 (by decide) L_39 (fun _ _ => mF_39) rfl X hw dX12_inducts_23 ?_
  refine lv_iload hx hb dX12_inducts_26 (lv_at hl 0 rfl) ?_
  refine aL 39 24 23 40 (fun _ _ _ _ => mG_39) (fun _ => rfl) X hw rv3 dX12_inducts_28 rfl h (fun v4 rv4 h => ?_)
  refine kcV (n := 1) (c_pathsOf rv4 h) G_pathsOf E_pathsOf X hw (Nat.le_trans (Nat.le_of_ble_eq_true rfl) hRf) (Nat.le_trans (Nat.le_of_ble_eq_true rfl) hRl) rfl hl.1 (Nat.le_of_ble_eq_true rfl) rfl dX12_inducts_29 (fun u H locs h hw => ?_)
  refine lv_iconst hx hb dX12_inducts_32 (v := jI 0) rfl ?_
  refine lv_istore hx hb dX12_inducts_33 hl (by decide) rfl (fun ls hl => ?_)
  have hl : lv_has ls 10 [(6, .int (jI 0)), (5, .int (jI v3)), (4, .int (jI v1)), (0, .ref (h0)), (1, .int (jI a0)), (2, .int (jI a1)), (3, .int (jI a2))] := hl
  exact b_inducts_35 X hRf hRl hret ra1 ra2 rv1 rv3 (by decide) hw (lv_sub hl [3, 5, 6, 2, 1, 0] rfl) h

end
theorem c_inducts {l : Launch} {a0 : Int} {a1 : Int} {a2 : Int} (ra0 : inR a0) (ra1 : inR a1) (ra2 : inR a2) {Q : Int → iST → Prop} {u : iST} (h : w_inducts a0 a1 a2 Q u) : kMI l yX12_inducts (.code yX12_inducts cX12_inducts 10 (some .boolean) :: wsM) { frames := 7, cells := 0, slots := 0, locals := 162 } [.int (jI a0), .int (jI a1), .int (jI a2)] Q u := kMZ_of rfl (fun _ => Nat.le_of_ble_eq_true rfl) (fun X hRf hRl hret hw hl => b_inducts_s X hRf hRl hret ra0 ra1 ra2 hw hl h)

/-! concludes -/
theorem dX12_concludes_0 : decode cX12_concludes 0 = .ok (.aload_n 0, 1) := by decide +kernel
theorem dX12_concludes_1 : decode cX12_concludes 1 = .ok (.getfield 290, 3) := by decide +kernel
theorem dX12_concludes_4 : decode cX12_concludes 4 = .ok (.iload_n 1, 1) := by decide +kernel
theorem dX12_concludes_5 : decode cX12_concludes 5 = .ok (.iaload, 1) := by decide +kernel
theorem dX12_concludes_6 : decode cX12_concludes 6 = .ok (.istore_n 2, 1) := by decide +kernel
theorem dX12_concludes_7 : decode cX12_concludes 7 = .ok (.aload_n 0, 1) := by decide +kernel
theorem dX12_concludes_8 : decode cX12_concludes 8 = .ok (.getfield 296, 3) := by decide +kernel
theorem dX12_concludes_11 : decode cX12_concludes 11 = .ok (.iload_n 1, 1) := by decide +kernel
theorem dX12_concludes_12 : decode cX12_concludes 12 = .ok (.iaload, 1) := by decide +kernel
theorem dX12_concludes_13 : decode cX12_concludes 13 = .ok (.istore_n 3, 1) := by decide +kernel
theorem dX12_concludes_14 : decode cX12_concludes 14 = .ok (.aload_n 0, 1) := by decide +kernel
theorem dX12_concludes_15 : decode cX12_concludes 15 = .ok (.iconst 0, 1) := by decide +kernel
theorem dX12_concludes_16 : decode cX12_concludes 16 = .ok (.putfield 727, 3) := by decide +kernel
theorem dX12_concludes_19 : decode cX12_concludes 19 = .ok (.aload_n 0, 1) := by decide +kernel
theorem dX12_concludes_20 : decode cX12_concludes 20 = .ok (.iload_n 2, 1) := by decide +kernel
theorem dX12_concludes_21 : decode cX12_concludes 21 = .ok (.invokevirtual 529, 3) := by decide +kernel
theorem dX12_concludes_24 : decode cX12_concludes 24 = .ok (.iconst 1, 1) := by decide +kernel
theorem dX12_concludes_25 : decode cX12_concludes 25 = .ok (.if_icmp .le 82, 3) := by decide +kernel
theorem dX12_concludes_28 : decode cX12_concludes 28 = .ok (.aload_n 0, 1) := by decide +kernel
theorem dX12_concludes_29 : decode cX12_concludes 29 = .ok (.getfield 8, 3) := by decide +kernel
theorem dX12_concludes_32 : decode cX12_concludes 32 = .ok (.iload_n 2, 1) := by decide +kernel
theorem dX12_concludes_33 : decode cX12_concludes 33 = .ok (.iaload, 1) := by decide +kernel
theorem dX12_concludes_34 : decode cX12_concludes 34 = .ok (.bipush 37, 2) := by decide +kernel
theorem dX12_concludes_36 : decode cX12_concludes 36 = .ok (.if_icmp .eq 71, 3) := by decide +kernel
theorem dX12_concludes_39 : decode cX12_concludes 39 = .ok (.aload_n 0, 1) := by decide +kernel
theorem dX12_concludes_40 : decode cX12_concludes 40 = .ok (.getfield 8, 3) := by decide +kernel
theorem dX12_concludes_43 : decode cX12_concludes 43 = .ok (.iload_n 2, 1) := by decide +kernel
theorem dX12_concludes_44 : decode cX12_concludes 44 = .ok (.iaload, 1) := by decide +kernel
theorem dX12_concludes_45 : decode cX12_concludes 45 = .ok (.bipush 38, 2) := by decide +kernel
theorem dX12_concludes_47 : decode cX12_concludes 47 = .ok (.if_icmp .eq 60, 3) := by decide +kernel
theorem dX12_concludes_50 : decode cX12_concludes 50 = .ok (.aload_n 0, 1) := by decide +kernel
theorem dX12_concludes_51 : decode cX12_concludes 51 = .ok (.getfield 8, 3) := by decide +kernel
theorem dX12_concludes_54 : decode cX12_concludes 54 = .ok (.iload_n 2, 1) := by decide +kernel
theorem dX12_concludes_55 : decode cX12_concludes 55 = .ok (.iaload, 1) := by decide +kernel
theorem dX12_concludes_56 : decode cX12_concludes 56 = .ok (.bipush 39, 2) := by decide +kernel
theorem dX12_concludes_58 : decode cX12_concludes 58 = .ok (.if_icmp .eq 49, 3) := by decide +kernel
theorem dX12_concludes_61 : decode cX12_concludes 61 = .ok (.aload_n 0, 1) := by decide +kernel
theorem dX12_concludes_62 : decode cX12_concludes 62 = .ok (.getfield 8, 3) := by decide +kernel
theorem dX12_concludes_65 : decode cX12_concludes 65 = .ok (.iload_n 2, 1) := by decide +kernel
theorem dX12_concludes_66 : decode cX12_concludes 66 = .ok (.iaload, 1) := by decide +kernel
theorem dX12_concludes_67 : decode cX12_concludes 67 = .ok (.bipush 41, 2) := by decide +kernel
theorem dX12_concludes_69 : decode cX12_concludes 69 = .ok (.if_icmp .eq 38, 3) := by decide +kernel
theorem dX12_concludes_72 : decode cX12_concludes 72 = .ok (.aload_n 0, 1) := by decide +kernel
theorem dX12_concludes_73 : decode cX12_concludes 73 = .ok (.getfield 8, 3) := by decide +kernel
theorem dX12_concludes_76 : decode cX12_concludes 76 = .ok (.iload_n 2, 1) := by decide +kernel
theorem dX12_concludes_77 : decode cX12_concludes 77 = .ok (.iaload, 1) := by decide +kernel
theorem dX12_concludes_78 : decode cX12_concludes 78 = .ok (.bipush 42, 2) := by decide +kernel
theorem dX12_concludes_80 : decode cX12_concludes 80 = .ok (.if_icmp .eq 27, 3) := by decide +kernel
theorem dX12_concludes_83 : decode cX12_concludes 83 = .ok (.aload_n 0, 1) := by decide +kernel
theorem dX12_concludes_84 : decode cX12_concludes 84 = .ok (.getfield 8, 3) := by decide +kernel
theorem dX12_concludes_87 : decode cX12_concludes 87 = .ok (.iload_n 2, 1) := by decide +kernel
theorem dX12_concludes_88 : decode cX12_concludes 88 = .ok (.iaload, 1) := by decide +kernel
theorem dX12_concludes_89 : decode cX12_concludes 89 = .ok (.bipush 43, 2) := by decide +kernel
theorem dX12_concludes_91 : decode cX12_concludes 91 = .ok (.if_icmp .eq 16, 3) := by decide +kernel
theorem dX12_concludes_94 : decode cX12_concludes 94 = .ok (.aload_n 0, 1) := by decide +kernel
theorem dX12_concludes_95 : decode cX12_concludes 95 = .ok (.aload_n 0, 1) := by decide +kernel
theorem dX12_concludes_96 : decode cX12_concludes 96 = .ok (.iload_n 2, 1) := by decide +kernel
theorem dX12_concludes_97 : decode cX12_concludes 97 = .ok (.iconst 1, 1) := by decide +kernel
theorem dX12_concludes_98 : decode cX12_concludes 98 = .ok (.invokevirtual 471, 3) := by decide +kernel
theorem dX12_concludes_101 : decode cX12_concludes 101 = .ok (.invokevirtual 815, 3) := by decide +kernel
theorem dX12_concludes_104 : decode cX12_concludes 104 = .ok (.goto 4, 3) := by decide +kernel
theorem dX12_concludes_107 : decode cX12_concludes 107 = .ok (.iconst (-1), 1) := by decide +kernel
theorem dX12_concludes_108 : decode cX12_concludes 108 = .ok (.istore 4, 2) := by decide +kernel
theorem dX12_concludes_110 : decode cX12_concludes 110 = .ok (.aload_n 0, 1) := by decide +kernel
theorem dX12_concludes_111 : decode cX12_concludes 111 = .ok (.getfield 8, 3) := by decide +kernel
theorem dX12_concludes_114 : decode cX12_concludes 114 = .ok (.iload_n 2, 1) := by decide +kernel
theorem dX12_concludes_115 : decode cX12_concludes 115 = .ok (.iaload, 1) := by decide +kernel
theorem dX12_concludes_116 : decode cX12_concludes 116 = .ok (.bipush 32, 2) := by decide +kernel
theorem dX12_concludes_118 : decode cX12_concludes 118 = .ok (.if_icmp .lt 27, 3) := by decide +kernel
theorem dX12_concludes_121 : decode cX12_concludes 121 = .ok (.aload_n 0, 1) := by decide +kernel
theorem dX12_concludes_122 : decode cX12_concludes 122 = .ok (.getfield 8, 3) := by decide +kernel
theorem dX12_concludes_125 : decode cX12_concludes 125 = .ok (.iload_n 2, 1) := by decide +kernel
theorem dX12_concludes_126 : decode cX12_concludes 126 = .ok (.iaload, 1) := by decide +kernel
theorem dX12_concludes_127 : decode cX12_concludes 127 = .ok (.bipush 36, 2) := by decide +kernel
theorem dX12_concludes_129 : decode cX12_concludes 129 = .ok (.if_icmp .gt 16, 3) := by decide +kernel
theorem dX12_concludes_132 : decode cX12_concludes 132 = .ok (.aload_n 0, 1) := by decide +kernel
theorem dX12_concludes_133 : decode cX12_concludes 133 = .ok (.aload_n 0, 1) := by decide +kernel
theorem dX12_concludes_134 : decode cX12_concludes 134 = .ok (.iload_n 2, 1) := by decide +kernel
theorem dX12_concludes_135 : decode cX12_concludes 135 = .ok (.iconst 2, 1) := by decide +kernel
theorem dX12_concludes_136 : decode cX12_concludes 136 = .ok (.invokevirtual 471, 3) := by decide +kernel
theorem dX12_concludes_139 : decode cX12_concludes 139 = .ok (.invokevirtual 815, 3) := by decide +kernel
theorem dX12_concludes_142 : decode cX12_concludes 142 = .ok (.goto 4, 3) := by decide +kernel
theorem dX12_concludes_145 : decode cX12_concludes 145 = .ok (.iconst (-1), 1) := by decide +kernel
theorem dX12_concludes_146 : decode cX12_concludes 146 = .ok (.istore 5, 2) := by decide +kernel
theorem dX12_concludes_148 : decode cX12_concludes 148 = .ok (.aload_n 0, 1) := by decide +kernel
theorem dX12_concludes_149 : decode cX12_concludes 149 = .ok (.getfield 8, 3) := by decide +kernel
theorem dX12_concludes_152 : decode cX12_concludes 152 = .ok (.iload_n 2, 1) := by decide +kernel
theorem dX12_concludes_153 : decode cX12_concludes 153 = .ok (.iaload, 1) := by decide +kernel
theorem dX12_concludes_154 : decode cX12_concludes 154 = .ok (.bipush 35, 2) := by decide +kernel
theorem dX12_concludes_156 : decode cX12_concludes 156 = .ok (.if_icmp .eq 14, 3) := by decide +kernel
theorem dX12_concludes_159 : decode cX12_concludes 159 = .ok (.aload_n 0, 1) := by decide +kernel
theorem dX12_concludes_160 : decode cX12_concludes 160 = .ok (.getfield 8, 3) := by decide +kernel
theorem dX12_concludes_163 : decode cX12_concludes 163 = .ok (.iload_n 2, 1) := by decide +kernel
theorem dX12_concludes_164 : decode cX12_concludes 164 = .ok (.iaload, 1) := by decide +kernel
theorem dX12_concludes_165 : decode cX12_concludes 165 = .ok (.bipush 36, 2) := by decide +kernel
theorem dX12_concludes_167 : decode cX12_concludes 167 = .ok (.if_icmp .ne 16, 3) := by decide +kernel
theorem dX12_concludes_170 : decode cX12_concludes 170 = .ok (.aload_n 0, 1) := by decide +kernel
theorem dX12_concludes_171 : decode cX12_concludes 171 = .ok (.aload_n 0, 1) := by decide +kernel
theorem dX12_concludes_172 : decode cX12_concludes 172 = .ok (.iload_n 2, 1) := by decide +kernel
theorem dX12_concludes_173 : decode cX12_concludes 173 = .ok (.iconst 3, 1) := by decide +kernel
theorem dX12_concludes_174 : decode cX12_concludes 174 = .ok (.invokevirtual 471, 3) := by decide +kernel
theorem dX12_concludes_177 : decode cX12_concludes 177 = .ok (.invokevirtual 815, 3) := by decide +kernel
theorem dX12_concludes_180 : decode cX12_concludes 180 = .ok (.goto 4, 3) := by decide +kernel
theorem dX12_concludes_183 : decode cX12_concludes 183 = .ok (.iconst (-1), 1) := by decide +kernel
theorem dX12_concludes_184 : decode cX12_concludes 184 = .ok (.istore 6, 2) := by decide +kernel
theorem dX12_concludes_186 : decode cX12_concludes 186 = .ok (.aload_n 0, 1) := by decide +kernel
theorem dX12_concludes_187 : decode cX12_concludes 187 = .ok (.getfield 8, 3) := by decide +kernel
theorem dX12_concludes_190 : decode cX12_concludes 190 = .ok (.iload_n 2, 1) := by decide +kernel
theorem dX12_concludes_191 : decode cX12_concludes 191 = .ok (.iaload, 1) := by decide +kernel
theorem dX12_concludes_192 : decode cX12_concludes 192 = .ok (.tableswitch 490 29 43 #[76, 94, 109, 132, 162, 192, 215, 249, 279, 295, 316, 364, 414, 421, 484], 76) := by decide +kernel
theorem dX12_concludes_268 : decode cX12_concludes 268 = .ok (.aload_n 0, 1) := by decide +kernel
theorem dX12_concludes_269 : decode cX12_concludes 269 = .ok (.iload 4, 2) := by decide +kernel
theorem dX12_concludes_271 : decode cX12_concludes 271 = .ok (.invokevirtual 739, 3) := by decide +kernel
theorem dX12_concludes_274 : decode cX12_concludes 274 = .ok (.aload_n 0, 1) := by decide +kernel
theorem dX12_concludes_275 : decode cX12_concludes 275 = .ok (.aload_n 0, 1) := by decide +kernel
theorem dX12_concludes_276 : decode cX12_concludes 276 = .ok (.iload 4, 2) := by decide +kernel
theorem dX12_concludes_278 : decode cX12_concludes 278 = .ok (.invokevirtual 659, 3) := by decide +kernel
theorem dX12_concludes_281 : decode cX12_concludes 281 = .ok (.invokevirtual 739, 3) := by decide +kernel
theorem dX12_concludes_284 : decode cX12_concludes 284 = .ok (.iconst 1, 1) := by decide +kernel
theorem dX12_concludes_285 : decode cX12_concludes 285 = .ok (.ireturn, 1) := by decide +kernel
theorem dX12_concludes_286 : decode cX12_concludes 286 = .ok (.aload_n 0, 1) := by decide +kernel
theorem dX12_concludes_287 : decode cX12_concludes 287 = .ok (.aload_n 0, 1) := by decide +kernel
theorem dX12_concludes_288 : decode cX12_concludes 288 = .ok (.iconst 4, 1) := by decide +kernel
theorem dX12_concludes_289 : decode cX12_concludes 289 = .ok (.iload 4, 2) := by decide +kernel
theorem dX12_concludes_291 : decode cX12_concludes 291 = .ok (.iload 4, 2) := by decide +kernel
theorem dX12_concludes_293 : decode cX12_concludes 293 = .ok (.invokevirtual 693, 3) := by decide +kernel
theorem dX12_concludes_296 : decode cX12_concludes 296 = .ok (.invokevirtual 739, 3) := by decide +kernel
theorem dX12_concludes_299 : decode cX12_concludes 299 = .ok (.iconst 1, 1) := by decide +kernel
theorem dX12_concludes_300 : decode cX12_concludes 300 = .ok (.ireturn, 1) := by decide +kernel
theorem dX12_concludes_301 : decode cX12_concludes 301 = .ok (.aload_n 0, 1) := by decide +kernel
theorem dX12_concludes_302 : decode cX12_concludes 302 = .ok (.aload_n 0, 1) := by decide +kernel
theorem dX12_concludes_303 : decode cX12_concludes 303 = .ok (.iconst 4, 1) := by decide +kernel
theorem dX12_concludes_304 : decode cX12_concludes 304 = .ok (.iload 4, 2) := by decide +kernel
theorem dX12_concludes_306 : decode cX12_concludes 306 = .ok (.aload_n 0, 1) := by decide +kernel
theorem dX12_concludes_307 : decode cX12_concludes 307 = .ok (.aload_n 0, 1) := by decide +kernel
theorem dX12_concludes_308 : decode cX12_concludes 308 = .ok (.iload 4, 2) := by decide +kernel
theorem dX12_concludes_310 : decode cX12_concludes 310 = .ok (.invokevirtual 917, 3) := by decide +kernel
theorem dX12_concludes_313 : decode cX12_concludes 313 = .ok (.invokevirtual 523, 3) := by decide +kernel
theorem dX12_concludes_316 : decode cX12_concludes 316 = .ok (.invokevirtual 693, 3) := by decide +kernel
theorem dX12_concludes_319 : decode cX12_concludes 319 = .ok (.invokevirtual 739, 3) := by decide +kernel
theorem dX12_concludes_322 : decode cX12_concludes 322 = .ok (.iconst 1, 1) := by decide +kernel
theorem dX12_concludes_323 : decode cX12_concludes 323 = .ok (.ireturn, 1) := by decide +kernel
theorem dX12_concludes_324 : decode cX12_concludes 324 = .ok (.aload_n 0, 1) := by decide +kernel
theorem dX12_concludes_325 : decode cX12_concludes 325 = .ok (.aload_n 0, 1) := by decide +kernel
theorem dX12_concludes_326 : decode cX12_concludes 326 = .ok (.iconst 4, 1) := by decide +kernel
theorem dX12_concludes_327 : decode cX12_concludes 327 = .ok (.aload_n 0, 1) := by decide +kernel
theorem dX12_concludes_328 : decode cX12_concludes 328 = .ok (.bipush 11, 2) := by decide +kernel
theorem dX12_concludes_330 : decode cX12_concludes 330 = .ok (.aload_n 0, 1) := by decide +kernel
theorem dX12_concludes_331 : decode cX12_concludes 331 = .ok (.iconst 5, 1) := by decide +kernel
theorem dX12_concludes_332 : decode cX12_concludes 332 = .ok (.iload 4, 2) := by decide +kernel
theorem dX12_concludes_334 : decode cX12_concludes 334 = .ok (.iload 5, 2) := by decide +kernel
theorem dX12_concludes_336 : decode cX12_concludes 336 = .ok (.invokevirtual 693, 3) := by decide +kernel
theorem dX12_concludes_339 : decode cX12_concludes 339 = .ok (.iconst (-1), 1) := by decide +kernel
theorem dX12_concludes_340 : decode cX12_concludes 340 = .ok (.iconst (-1), 1) := by decide +kernel
theorem dX12_concludes_341 : decode cX12_concludes 341 = .ok (.invokevirtual 538, 3) := by decide +kernel
theorem dX12_concludes_344 : decode cX12_concludes 344 = .ok (.iload 4, 2) := by decide +kernel
theorem dX12_concludes_346 : decode cX12_concludes 346 = .ok (.invokevirtual 693, 3) := by decide +kernel
theorem dX12_concludes_349 : decode cX12_concludes 349 = .ok (.invokevirtual 739, 3) := by decide +kernel
theorem dX12_concludes_352 : decode cX12_concludes 352 = .ok (.iconst 1, 1) := by decide +kernel
theorem dX12_concludes_353 : decode cX12_concludes 353 = .ok (.ireturn, 1) := by decide +kernel
theorem dX12_concludes_354 : decode cX12_concludes 354 = .ok (.aload_n 0, 1) := by decide +kernel
theorem dX12_concludes_355 : decode cX12_concludes 355 = .ok (.aload_n 0, 1) := by decide +kernel
theorem dX12_concludes_356 : decode cX12_concludes 356 = .ok (.iconst 4, 1) := by decide +kernel
theorem dX12_concludes_357 : decode cX12_concludes 357 = .ok (.aload_n 0, 1) := by decide +kernel
theorem dX12_concludes_358 : decode cX12_concludes 358 = .ok (.bipush 12, 2) := by decide +kernel
theorem dX12_concludes_360 : decode cX12_concludes 360 = .ok (.aload_n 0, 1) := by decide +kernel
theorem dX12_concludes_361 : decode cX12_concludes 361 = .ok (.iconst 5, 1) := by decide +kernel
theorem dX12_concludes_362 : decode cX12_concludes 362 = .ok (.iload 4, 2) := by decide +kernel
theorem dX12_concludes_364 : decode cX12_concludes 364 = .ok (.iload 5, 2) := by decide +kernel
theorem dX12_concludes_366 : decode cX12_concludes 366 = .ok (.invokevirtual 693, 3) := by decide +kernel
theorem dX12_concludes_369 : decode cX12_concludes 369 = .ok (.iconst (-1), 1) := by decide +kernel
theorem dX12_concludes_370 : decode cX12_concludes 370 = .ok (.iconst (-1), 1) := by decide +kernel
theorem dX12_concludes_371 : decode cX12_concludes 371 = .ok (.invokevirtual 538, 3) := by decide +kernel
theorem dX12_concludes_374 : decode cX12_concludes 374 = .ok (.iload 5, 2) := by decide +kernel
theorem dX12_concludes_376 : decode cX12_concludes 376 = .ok (.invokevirtual 693, 3) := by decide +kernel
theorem dX12_concludes_379 : decode cX12_concludes 379 = .ok (.invokevirtual 739, 3) := by decide +kernel
theorem dX12_concludes_382 : decode cX12_concludes 382 = .ok (.iconst 1, 1) := by decide +kernel
theorem dX12_concludes_383 : decode cX12_concludes 383 = .ok (.ireturn, 1) := by decide +kernel
theorem dX12_concludes_384 : decode cX12_concludes 384 = .ok (.aload_n 0, 1) := by decide +kernel
theorem dX12_concludes_385 : decode cX12_concludes 385 = .ok (.aload_n 0, 1) := by decide +kernel
theorem dX12_concludes_386 : decode cX12_concludes 386 = .ok (.bipush 10, 2) := by decide +kernel
theorem dX12_concludes_388 : decode cX12_concludes 388 = .ok (.aload_n 0, 1) := by decide +kernel
theorem dX12_concludes_389 : decode cX12_concludes 389 = .ok (.iconst 5, 1) := by decide +kernel
theorem dX12_concludes_390 : decode cX12_concludes 390 = .ok (.iload 4, 2) := by decide +kernel
theorem dX12_concludes_392 : decode cX12_concludes 392 = .ok (.iload 5, 2) := by decide +kernel
theorem dX12_concludes_394 : decode cX12_concludes 394 = .ok (.invokevirtual 693, 3) := by decide +kernel
theorem dX12_concludes_397 : decode cX12_concludes 397 = .ok (.iconst (-1), 1) := by decide +kernel
theorem dX12_concludes_398 : decode cX12_concludes 398 = .ok (.iconst (-1), 1) := by decide +kernel
theorem dX12_concludes_399 : decode cX12_concludes 399 = .ok (.invokevirtual 538, 3) := by decide +kernel
theorem dX12_concludes_402 : decode cX12_concludes 402 = .ok (.invokevirtual 739, 3) := by decide +kernel
theorem dX12_concludes_405 : decode cX12_concludes 405 = .ok (.iconst 1, 1) := by decide +kernel
theorem dX12_concludes_406 : decode cX12_concludes 406 = .ok (.ireturn, 1) := by decide +kernel
theorem dX12_concludes_407 : decode cX12_concludes 407 = .ok (.aload_n 0, 1) := by decide +kernel
theorem dX12_concludes_408 : decode cX12_concludes 408 = .ok (.aload_n 0, 1) := by decide +kernel
theorem dX12_concludes_409 : decode cX12_concludes 409 = .ok (.iload 4, 2) := by decide +kernel
theorem dX12_concludes_411 : decode cX12_concludes 411 = .ok (.invokevirtual 659, 3) := by decide +kernel
theorem dX12_concludes_414 : decode cX12_concludes 414 = .ok (.invokevirtual 739, 3) := by decide +kernel
theorem dX12_concludes_417 : decode cX12_concludes 417 = .ok (.aload_n 0, 1) := by decide +kernel
theorem dX12_concludes_418 : decode cX12_concludes 418 = .ok (.aload_n 0, 1) := by decide +kernel
theorem dX12_concludes_419 : decode cX12_concludes 419 = .ok (.iconst 4, 1) := by decide +kernel
theorem dX12_concludes_420 : decode cX12_concludes 420 = .ok (.aload_n 0, 1) := by decide +kernel
theorem dX12_concludes_421 : decode cX12_concludes 421 = .ok (.iconst 3, 1) := by decide +kernel
theorem dX12_concludes_422 : decode cX12_concludes 422 = .ok (.iload 4, 2) := by decide +kernel
theorem dX12_concludes_424 : decode cX12_concludes 424 = .ok (.iload 5, 2) := by decide +kernel
theorem dX12_concludes_426 : decode cX12_concludes 426 = .ok (.iload 6, 2) := by decide +kernel
theorem dX12_concludes_428 : decode cX12_concludes 428 = .ok (.invokevirtual 538, 3) := by decide +kernel
theorem dX12_concludes_431 : decode cX12_concludes 431 = .ok (.iload 5, 2) := by decide +kernel
theorem dX12_concludes_433 : decode cX12_concludes 433 = .ok (.invokevirtual 693, 3) := by decide +kernel
theorem dX12_concludes_436 : decode cX12_concludes 436 = .ok (.invokevirtual 739, 3) := by decide +kernel
theorem dX12_concludes_439 : decode cX12_concludes 439 = .ok (.iconst 1, 1) := by decide +kernel
theorem dX12_concludes_440 : decode cX12_concludes 440 = .ok (.ireturn, 1) := by decide +kernel
theorem dX12_concludes_441 : decode cX12_concludes 441 = .ok (.aload_n 0, 1) := by decide +kernel
theorem dX12_concludes_442 : decode cX12_concludes 442 = .ok (.iload 4, 2) := by decide +kernel
theorem dX12_concludes_444 : decode cX12_concludes 444 = .ok (.invokevirtual 739, 3) := by decide +kernel
theorem dX12_concludes_447 : decode cX12_concludes 447 = .ok (.aload_n 0, 1) := by decide +kernel
theorem dX12_concludes_448 : decode cX12_concludes 448 = .ok (.aload_n 0, 1) := by decide +kernel
theorem dX12_concludes_449 : decode cX12_concludes 449 = .ok (.iconst 4, 1) := by decide +kernel
theorem dX12_concludes_450 : decode cX12_concludes 450 = .ok (.aload_n 0, 1) := by decide +kernel
theorem dX12_concludes_451 : decode cX12_concludes 451 = .ok (.iconst 3, 1) := by decide +kernel
theorem dX12_concludes_452 : decode cX12_concludes 452 = .ok (.iload 4, 2) := by decide +kernel
theorem dX12_concludes_454 : decode cX12_concludes 454 = .ok (.iload 5, 2) := by decide +kernel
theorem dX12_concludes_456 : decode cX12_concludes 456 = .ok (.iload 6, 2) := by decide +kernel
theorem dX12_concludes_458 : decode cX12_concludes 458 = .ok (.invokevirtual 538, 3) := by decide +kernel
theorem dX12_concludes_461 : decode cX12_concludes 461 = .ok (.iload 6, 2) := by decide +kernel
theorem dX12_concludes_463 : decode cX12_concludes 463 = .ok (.invokevirtual 693, 3) := by decide +kernel
theorem dX12_concludes_466 : decode cX12_concludes 466 = .ok (.invokevirtual 739, 3) := by decide +kernel
theorem dX12_concludes_469 : decode cX12_concludes 469 = .ok (.iconst 1, 1) := by decide +kernel
theorem dX12_concludes_470 : decode cX12_concludes 470 = .ok (.ireturn, 1) := by decide +kernel
theorem dX12_concludes_471 : decode cX12_concludes 471 = .ok (.aload_n 0, 1) := by decide +kernel
theorem dX12_concludes_472 : decode cX12_concludes 472 = .ok (.aload_n 0, 1) := by decide +kernel
theorem dX12_concludes_473 : decode cX12_concludes 473 = .ok (.aload_n 0, 1) := by decide +kernel
theorem dX12_concludes_474 : decode cX12_concludes 474 = .ok (.iload_n 2, 1) := by decide +kernel
theorem dX12_concludes_475 : decode cX12_concludes 475 = .ok (.iconst 1, 1) := by decide +kernel
theorem dX12_concludes_476 : decode cX12_concludes 476 = .ok (.invokevirtual 471, 3) := by decide +kernel
theorem dX12_concludes_479 : decode cX12_concludes 479 = .ok (.invokevirtual 827, 3) := by decide +kernel
theorem dX12_concludes_482 : decode cX12_concludes 482 = .ok (.invokevirtual 941, 3) := by decide +kernel
theorem dX12_concludes_485 : decode cX12_concludes 485 = .ok (.iconst 1, 1) := by decide +kernel
theorem dX12_concludes_486 : decode cX12_concludes 486 = .ok (.ireturn, 1) := by decide +kernel
theorem dX12_concludes_487 : decode cX12_concludes 487 = .ok (.aload_n 0, 1) := by decide +kernel
theorem dX12_concludes_488 : decode cX12_concludes 488 = .ok (.aload_n 0, 1) := by decide +kernel
theorem dX12_concludes_489 : decode cX12_concludes 489 = .ok (.getfield 100, 3) := by decide +kernel
theorem dX12_concludes_492 : decode cX12_concludes 492 = .ok (.aload_n 0, 1) := by decide +kernel
theorem dX12_concludes_493 : decode cX12_concludes 493 = .ok (.aload_n 0, 1) := by decide +kernel
theorem dX12_concludes_494 : decode cX12_concludes 494 = .ok (.iload_n 2, 1) := by decide +kernel
theorem dX12_concludes_495 : decode cX12_concludes 495 = .ok (.iconst 1, 1) := by decide +kernel
theorem dX12_concludes_496 : decode cX12_concludes 496 = .ok (.invokevirtual 471, 3) := by decide +kernel
theorem dX12_concludes_499 : decode cX12_concludes 499 = .ok (.invokevirtual 875, 3) := by decide +kernel
theorem dX12_concludes_502 : decode cX12_concludes 502 = .ok (.iaload, 1) := by decide +kernel
theorem dX12_concludes_503 : decode cX12_concludes 503 = .ok (.invokevirtual 739, 3) := by decide +kernel
theorem dX12_concludes_506 : decode cX12_concludes 506 = .ok (.iconst 1, 1) := by decide +kernel
theorem dX12_concludes_507 : decode cX12_concludes 507 = .ok (.ireturn, 1) := by decide +kernel
theorem dX12_concludes_508 : decode cX12_concludes 508 = .ok (.aload_n 0, 1) := by decide +kernel
theorem dX12_concludes_509 : decode cX12_concludes 509 = .ok (.iload_n 3, 1) := by decide +kernel
theorem dX12_concludes_510 : decode cX12_concludes 510 = .ok (.iconst (-1), 1) := by decide +kernel
theorem dX12_concludes_511 : decode cX12_concludes 511 = .ok (.invokevirtual 944, 3) := by decide +kernel
theorem dX12_concludes_514 : decode cX12_concludes 514 = .ok (.aload_n 0, 1) := by decide +kernel
theorem dX12_concludes_515 : decode cX12_concludes 515 = .ok (.iload_n 2, 1) := by decide +kernel
theorem dX12_concludes_516 : decode cX12_concludes 516 = .ok (.iconst 1, 1) := by decide +kernel
theorem dX12_concludes_517 : decode cX12_concludes 517 = .ok (.invokevirtual 471, 3) := by decide +kernel
theorem dX12_concludes_520 : decode cX12_concludes 520 = .ok (.istore 7, 2) := by decide +kernel
theorem dX12_concludes_522 : decode cX12_concludes 522 = .ok (.iload 7, 2) := by decide +kernel
theorem dX12_concludes_524 : decode cX12_concludes 524 = .ok (.ifCond .eq 30, 3) := by decide +kernel
theorem dX12_concludes_527 : decode cX12_concludes 527 = .ok (.aload_n 0, 1) := by decide +kernel
theorem dX12_concludes_528 : decode cX12_concludes 528 = .ok (.aload_n 0, 1) := by decide +kernel
theorem dX12_concludes_529 : decode cX12_concludes 529 = .ok (.aload_n 0, 1) := by decide +kernel
theorem dX12_concludes_530 : decode cX12_concludes 530 = .ok (.getfield 8, 3) := by decide +kernel
theorem dX12_concludes_533 : decode cX12_concludes 533 = .ok (.iload 7, 2) := by decide +kernel
theorem dX12_concludes_535 : decode cX12_concludes 535 = .ok (.iaload, 1) := by decide +kernel
theorem dX12_concludes_536 : decode cX12_concludes 536 = .ok (.invokevirtual 815, 3) := by decide +kernel
theorem dX12_concludes_539 : decode cX12_concludes 539 = .ok (.invokevirtual 739, 3) := by decide +kernel
theorem dX12_concludes_542 : decode cX12_concludes 542 = .ok (.aload_n 0, 1) := by decide +kernel
theorem dX12_concludes_543 : decode cX12_concludes 543 = .ok (.getfield 14, 3) := by decide +kernel
theorem dX12_concludes_546 : decode cX12_concludes 546 = .ok (.iload 7, 2) := by decide +kernel
theorem dX12_concludes_548 : decode cX12_concludes 548 = .ok (.iaload, 1) := by decide +kernel
theorem dX12_concludes_549 : decode cX12_concludes 549 = .ok (.istore 7, 2) := by decide +kernel
theorem dX12_concludes_551 : decode cX12_concludes 551 = .ok (.goto (-29), 3) := by decide +kernel
theorem dX12_concludes_554 : decode cX12_concludes 554 = .ok (.iconst 1, 1) := by decide +kernel
theorem dX12_concludes_555 : decode cX12_concludes 555 = .ok (.ireturn, 1) := by decide +kernel
theorem dX12_concludes_556 : decode cX12_concludes 556 = .ok (.aload_n 0, 1) := by decide +kernel
theorem dX12_concludes_557 : decode cX12_concludes 557 = .ok (.iload 4, 2) := by decide +kernel
theorem dX12_concludes_559 : decode cX12_concludes 559 = .ok (.invokevirtual 659, 3) := by decide +kernel
theorem dX12_concludes_562 : decode cX12_concludes 562 = .ok (.istore 7, 2) := by decide +kernel
theorem dX12_concludes_564 : decode cX12_concludes 564 = .ok (.aload_n 0, 1) := by decide +kernel
theorem dX12_concludes_565 : decode cX12_concludes 565 = .ok (.iload_n 3, 1) := by decide +kernel
theorem dX12_concludes_566 : decode cX12_concludes 566 = .ok (.iload 4, 2) := by decide +kernel
theorem dX12_concludes_568 : decode cX12_concludes 568 = .ok (.invokevirtual 947, 3) := by decide +kernel
theorem dX12_concludes_571 : decode cX12_concludes 571 = .ok (.ifCond .eq 15, 3) := by decide +kernel
theorem dX12_concludes_574 : decode cX12_concludes 574 = .ok (.aload_n 0, 1) := by decide +kernel
theorem dX12_concludes_575 : decode cX12_concludes 575 = .ok (.iload_n 3, 1) := by decide +kernel
theorem dX12_concludes_576 : decode cX12_concludes 576 = .ok (.iconst 1, 1) := by decide +kernel
theorem dX12_concludes_577 : decode cX12_concludes 577 = .ok (.iadd, 1) := by decide +kernel
theorem dX12_concludes_578 : decode cX12_concludes 578 = .ok (.iload 7, 2) := by decide +kernel
theorem dX12_concludes_580 : decode cX12_concludes 580 = .ok (.invokevirtual 947, 3) := by decide +kernel
theorem dX12_concludes_583 : decode cX12_concludes 583 = .ok (.ifCond .ne 5, 3) := by decide +kernel
theorem dX12_concludes_586 : decode cX12_concludes 586 = .ok (.iconst 0, 1) := by decide +kernel
theorem dX12_concludes_587 : decode cX12_concludes 587 = .ok (.ireturn, 1) := by decide +kernel
theorem dX12_concludes_588 : decode cX12_concludes 588 = .ok (.aload_n 0, 1) := by decide +kernel
theorem dX12_concludes_589 : decode cX12_concludes 589 = .ok (.iload_n 3, 1) := by decide +kernel
theorem dX12_concludes_590 : decode cX12_concludes 590 = .ok (.iload 4, 2) := by decide +kernel
theorem dX12_concludes_592 : decode cX12_concludes 592 = .ok (.invokevirtual 944, 3) := by decide +kernel
theorem dX12_concludes_595 : decode cX12_concludes 595 = .ok (.aload_n 0, 1) := by decide +kernel
theorem dX12_concludes_596 : decode cX12_concludes 596 = .ok (.iload_n 3, 1) := by decide +kernel
theorem dX12_concludes_597 : decode cX12_concludes 597 = .ok (.iconst 1, 1) := by decide +kernel
theorem dX12_concludes_598 : decode cX12_concludes 598 = .ok (.iadd, 1) := by decide +kernel
theorem dX12_concludes_599 : decode cX12_concludes 599 = .ok (.iload 7, 2) := by decide +kernel
theorem dX12_concludes_601 : decode cX12_concludes 601 = .ok (.invokevirtual 944, 3) := by decide +kernel
theorem dX12_concludes_604 : decode cX12_concludes 604 = .ok (.iconst 1, 1) := by decide +kernel
theorem dX12_concludes_605 : decode cX12_concludes 605 = .ok (.ireturn, 1) := by decide +kernel
theorem dX12_concludes_606 : decode cX12_concludes 606 = .ok (.aload_n 0, 1) := by decide +kernel
theorem dX12_concludes_607 : decode cX12_concludes 607 = .ok (.iload_n 2, 1) := by decide +kernel
theorem dX12_concludes_608 : decode cX12_concludes 608 = .ok (.iload_n 3, 1) := by decide +kernel
theorem dX12_concludes_609 : decode cX12_concludes 609 = .ok (.invokevirtual 950, 3) := by decide +kernel
theorem dX12_concludes_612 : decode cX12_concludes 612 = .ok (.ireturn, 1) := by decide +kernel
theorem dX12_concludes_613 : decode cX12_concludes 613 = .ok (.aload_n 0, 1) := by decide +kernel
theorem dX12_concludes_614 : decode cX12_concludes 614 = .ok (.iload_n 3, 1) := by decide +kernel
theorem dX12_concludes_615 : decode cX12_concludes 615 = .ok (.invokevirtual 953, 3) := by decide +kernel
theorem dX12_concludes_618 : decode cX12_concludes 618 = .ok (.ifCond .ne 5, 3) := by decide +kernel
theorem dX12_concludes_621 : decode cX12_concludes 621 = .ok (.iconst 0, 1) := by decide +kernel
theorem dX12_concludes_622 : decode cX12_concludes 622 = .ok (.ireturn, 1) := by decide +kernel
theorem dX12_concludes_623 : decode cX12_concludes 623 = .ok (.aload_n 0, 1) := by decide +kernel
theorem dX12_concludes_624 : decode cX12_concludes 624 = .ok (.aload_n 0, 1) := by decide +kernel
theorem dX12_concludes_625 : decode cX12_concludes 625 = .ok (.iconst 4, 1) := by decide +kernel
theorem dX12_concludes_626 : decode cX12_concludes 626 = .ok (.aload_n 0, 1) := by decide +kernel
theorem dX12_concludes_627 : decode cX12_concludes 627 = .ok (.aload_n 0, 1) := by decide +kernel
theorem dX12_concludes_628 : decode cX12_concludes 628 = .ok (.getfield 299, 3) := by decide +kernel
theorem dX12_concludes_631 : decode cX12_concludes 631 = .ok (.bipush 30, 2) := by decide +kernel
theorem dX12_concludes_633 : decode cX12_concludes 633 = .ok (.iload_n 3, 1) := by decide +kernel
theorem dX12_concludes_634 : decode cX12_concludes 634 = .ok (.imul, 1) := by decide +kernel
theorem dX12_concludes_635 : decode cX12_concludes 635 = .ok (.iaload, 1) := by decide +kernel
theorem dX12_concludes_636 : decode cX12_concludes 636 = .ok (.iconst 2, 1) := by decide +kernel
theorem dX12_concludes_637 : decode cX12_concludes 637 = .ok (.invokevirtual 592, 3) := by decide +kernel
theorem dX12_concludes_640 : decode cX12_concludes 640 = .ok (.aload_n 0, 1) := by decide +kernel
theorem dX12_concludes_641 : decode cX12_concludes 641 = .ok (.aload_n 0, 1) := by decide +kernel
theorem dX12_concludes_642 : decode cX12_concludes 642 = .ok (.getfield 299, 3) := by decide +kernel
theorem dX12_concludes_645 : decode cX12_concludes 645 = .ok (.bipush 30, 2) := by decide +kernel
theorem dX12_concludes_647 : decode cX12_concludes 647 = .ok (.iload_n 3, 1) := by decide +kernel
theorem dX12_concludes_648 : decode cX12_concludes 648 = .ok (.imul, 1) := by decide +kernel
theorem dX12_concludes_649 : decode cX12_concludes 649 = .ok (.iaload, 1) := by decide +kernel
theorem dX12_concludes_650 : decode cX12_concludes 650 = .ok (.iconst 1, 1) := by decide +kernel
theorem dX12_concludes_651 : decode cX12_concludes 651 = .ok (.invokevirtual 592, 3) := by decide +kernel
theorem dX12_concludes_654 : decode cX12_concludes 654 = .ok (.invokevirtual 693, 3) := by decide +kernel
theorem dX12_concludes_657 : decode cX12_concludes 657 = .ok (.invokevirtual 739, 3) := by decide +kernel
theorem dX12_concludes_660 : decode cX12_concludes 660 = .ok (.aload_n 0, 1) := by decide +kernel
theorem dX12_concludes_661 : decode cX12_concludes 661 = .ok (.iload_n 3, 1) := by decide +kernel
theorem dX12_concludes_662 : decode cX12_concludes 662 = .ok (.aload_n 0, 1) := by decide +kernel
theorem dX12_concludes_663 : decode cX12_concludes 663 = .ok (.getfield 299, 3) := by decide +kernel
theorem dX12_concludes_666 : decode cX12_concludes 666 = .ok (.bipush 30, 2) := by decide +kernel
theorem dX12_concludes_668 : decode cX12_concludes 668 = .ok (.iload_n 3, 1) := by decide +kernel
theorem dX12_concludes_669 : decode cX12_concludes 669 = .ok (.imul, 1) := by decide +kernel
theorem dX12_concludes_670 : decode cX12_concludes 670 = .ok (.iaload, 1) := by decide +kernel
theorem dX12_concludes_671 : decode cX12_concludes 671 = .ok (.invokevirtual 944, 3) := by decide +kernel
theorem dX12_concludes_674 : decode cX12_concludes 674 = .ok (.iconst 1, 1) := by decide +kernel
theorem dX12_concludes_675 : decode cX12_concludes 675 = .ok (.ireturn, 1) := by decide +kernel
theorem dX12_concludes_676 : decode cX12_concludes 676 = .ok (.aload_n 0, 1) := by decide +kernel
theorem dX12_concludes_677 : decode cX12_concludes 677 = .ok (.iload_n 3, 1) := by decide +kernel
theorem dX12_concludes_678 : decode cX12_concludes 678 = .ok (.invokevirtual 956, 3) := by decide +kernel
theorem dX12_concludes_681 : decode cX12_concludes 681 = .ok (.ireturn, 1) := by decide +kernel
theorem dX12_concludes_682 : decode cX12_concludes 682 = .ok (.aload_n 0, 1) := by decide +kernel
theorem dX12_concludes_683 : decode cX12_concludes 683 = .ok (.iload_n 2, 1) := by decide +kernel
theorem dX12_concludes_684 : decode cX12_concludes 684 = .ok (.iload_n 3, 1) := by decide +kernel
theorem dX12_concludes_685 : decode cX12_concludes 685 = .ok (.iload 4, 2) := by decide +kernel
theorem dX12_concludes_687 : decode cX12_concludes 687 = .ok (.invokevirtual 959, 3) := by decide +kernel
theorem dX12_concludes_690 : decode cX12_concludes 690 = .ok (.ireturn, 1) := by decide +kernel

section
variable {p : Program} {l : Launch} {e : Env} {R : Room} {s : State} {m : MethodId} {args : Array Value} {below : List Frame} {meth : Method} {c : Code} {H : Heap} {locs : List Loc} {Qf : State → Prop}
variable {ls : Array Slot} {D : va_G} {ca : Nat → ClassId} {A : Nat → Prop} {h0 : Nat} {ad : Nat → Nat} {H0 : Heap} {u : iST}
def w_concludes_522b (R522 : Int → iST → Prop) (Q : Int → iST → Prop) (x7 : Int) (u : iST) : Prop :=
  br (x7 = 0) (
    zt 1 (Q 1 u)) (
    bd x7 452000 (rd (u.2.1 0 x7) (fun v57 => 
    w_termOf v57 (fun v58 u => 
    w_put v58 (fun u => 
    bd x7 452000 (rd (u.2.1 1 x7) (fun v60 => 
    R522 v60 u))) u) u)))
def w_concludes_522 (Q : Int → iST → Prop) (x7 : Int) (u : iST) : Prop := ∀ R522 : Int → iST → Prop, (∀ (x7 : Int) (u : iST), w_concludes_522b R522 Q x7 u → R522 x7 u) → R522 x7 u
set_option maxRecDepth 20000 in
set_option maxHeartbeats 4000000 in
theorem b_concludes_522 (X : kX p m c cX12_concludes 8 s args D ca) (hRf : 8 ≤ R.frames) (hRl : 191 ≤ R.locals) {Q : Int → iST → Prop} (hret : ∀ (v : Int) (u : iST) (H : Heap) (locs : List Loc) (ls : Array Slot) (pc : Nat), bz v → Q v u → kW D ca A h0 ad H0 H locs u → decode cX12_concludes pc = .ok (.ireturn, 1) → W p l e R s m args below meth c H locs 0 0 Qf (F0 m pc ls [.int (jI v)])) {x7 : Int} (rx7 : inR x7) (hw : kW D ca A h0 ad H0 H locs u) (hl : lv_has ls 8 [(0, .ref h0), (7, .int (jI x7))]) (h : w_concludes_522 Q x7 u) : W p l e R s m args below meth c H locs 0 0 Qf (F0 m 522 ls []) := by
  refine h (fun x7 u => ∀ (H : Heap) (locs : List Loc) (ls : Array Slot), inR x7 → kW D ca A h0 ad H0 H locs u → lv_has ls 8 [(0, .ref h0), (7, .int (jI x7))] → W p l e R s m args below meth c H locs 0 0 Qf (F0 m 522 ls [])) ?_ H locs ls rx7 hw hl
  clear h hl hw rx7
  intro x7 u h H locs ls rx7 hw hl
  have hR522 : ∀ (x7 : Int) (u : iST) (H : Heap) (locs : List Loc) (ls : Array Slot), inR x7 → kW D ca A h0 ad H0 H locs u → lv_has ls 8 [(0, .ref h0), (7, .int (jI x7))] → (fun (x7 : Int) u => ∀ (H : Heap) (locs : List Loc) (ls : Array Slot), inR x7 → kW D ca A h0 ad H0 H locs u → lv_has ls 8 [(0, .ref h0), (7, .int (jI x7))] → W p l e R s m args below meth c H locs 0 0 Qf (F0 m 522 ls [])) x7 u → W p l e R s m args below meth c H locs 0 0 Qf (F0 m 522 ls []) := fun x7 u H locs ls rx7 hw hl h => h H locs ls rx7 hw hl
  have hx := X.1.1
  have hb := X.1.2.1
  unfold w_concludes_522b at h
  refine lv_iload hx hb dX12_concludes_522 (lv_at hl 1 rfl) ?_
  refine k_if_eq hx hb rx7 dX12_concludes_524 (tgt := 554) rfl h (fun h => ?_) (fun h => ?_)
  · refine lv_iconst hx hb dX12_concludes_554 (v := jI 1) rfl ?_
    exact hret _ _ _ _ _ _ h.1 h.2 hw dX12_concludes_555
  · refine lv_aload_n hx hb dX12_concludes_527 rfl (lv_at hl 0 rfl) ?_
    refine lv_aload_n hx hb dX12_concludes_528 rfl (lv_at hl 0 rfl) ?_
    refine lv_aload_n hx hb dX12_concludes_529 rfl (lv_at hl 0 rfl) ?_
    refine gA 0 8 (by decide) L_0 (fun _ _ => mF_0) rfl X hw dX12_concludes_530 ?_
    refine lv_iload hx hb dX12_concludes_533 (lv_at hl 1 rfl) ?_
    refine aL 0 1 0 452000 (fun _ _ _ _ => mG_0) (fun _ => rfl) X hw rx7 dX12_concludes_535 rfl h (fun v57 rv57 h => ?_)
    refine kcI (n := 1) (c_termOf rv57 h) G_termOf E_termOf X hw (Nat.le_trans (Nat.le_of_ble_eq_true rfl) hRf) (Nat.le_trans (Nat.le_of_ble_eq_true rfl) hRl) rfl hl.1 (Nat.le_of_ble_eq_true rfl) rfl dX12_concludes_536 (fun v58 u H locs rv58 h hw => ?_)
    refine kcV (n := 1) (c_put rv58 h) G_put E_put X hw (Nat.le_trans (Nat.le_of_ble_eq_true rfl) hRf) (Nat.le_trans (Nat.le_of_ble_eq_true rfl) hRl) rfl hl.1 (Nat.le_of_ble_eq_true rfl) rfl dX12_concludes_539 (fun u H locs h hw => ?_)
    refine lv_aload_n hx hb dX12_concludes_542 rfl (lv_at hl 0 rfl) ?_
    refine gA 1 14 (by decide) L_1 (fun _ _ => mF_1) rfl X hw dX12_concludes_543 ?_
    refine lv_iload hx hb dX12_concludes_546 (lv_at hl 1 rfl) ?_
    refine aL 1 2 1 452000 (fun _ _ _ _ => mG_1) (fun _ => rfl) X hw rx7 dX12_concludes_548 rfl h (fun v60 rv60 h => ?_)
    refine lv_istore hx hb dX12_concludes_549 hl (by decide) rfl (fun ls hl => ?_)
    have hl : lv_has ls 8 [(7, .int (jI v60)), (0, .ref (h0))] := hl
    refine lv_goto hx hb dX12_concludes_551 (tgt := 522) rfl ?_
    exact hR522 _ _ H locs ls rv60 hw (lv_sub hl [1, 0] rfl) h

def w_concludes_184 (Q : Int → iST → Prop) (x2 : Int) (x3 : Int) (x4 : Int) (x5 : Int) (y0 : Int) (u : iST) : Prop :=
  bd x2 452000 (rd (u.2.1 0 x2) (fun v8 => 
  br (v8 = 29) (
    w_put x4 (fun u => 
    w_notOf x4 (fun v10 u => 
    w_put v10 (fun u => 
    zt 1 (Q 1 u)) u) u) u) (
  br (v8 = 30) (
    w_made2 4 x4 x4 (fun v13 u => 
    w_put v13 (fun u => 
    zt 1 (Q 1 u)) u) u) (
  br (v8 = 31) (
    w_told x4 (fun v16 u => 
    w_constantOf v16 (fun v17 u => 
    w_made2 4 x4 v17 (fun v18 u => 
    w_put v18 (fun u => 
    zt 1 (Q 1 u)) u) u) u) u) (
  br (v8 = 32) (
    w_made2 5 x4 x5 (fun v21 u => 
    w_made 11 v21 (-1) (-1) (fun v22 u => 
    w_made2 4 v22 x4 (fun v23 u => 
    w_put v23 (fun u => 
    zt 1 (Q 1 u)) u) u) u) u) (
  br (v8 = 33) (
    w_made2 5 x4 x5 (fun v26 u => 
    w_made 12 v26 (-1) (-1) (fun v27 u => 
    w_made2 4 v27 x5 (fun v28 u => 
    w_put v28 (fun u => 
    zt 1 (Q 1 u)) u) u) u) u) (
  br (v8 = 34) (
    w_made2 5 x4 x5 (fun v31 u => 
    w_made 10 v31 (-1) (-1) (fun v32 u => 
    w_put v32 (fun u => 
    zt 1 (Q 1 u)) u) u) u) (
  br (v8 = 35) (
    w_notOf x4 (fun v35 u => 
    w_put v35 (fun u => 
    w_made 3 x4 x5 y0 (fun v37 u => 
    w_made2 4 v37 x5 (fun v38 u => 
    w_put v38 (fun u => 
    zt 1 (Q 1 u)) u) u) u) u) u) (
  br (v8 = 36) (
    w_put x4 (fun u => 
    w_made 3 x4 x5 y0 (fun v42 u => 
    w_made2 4 v42 y0 (fun v43 u => 
    w_put v43 (fun u => 
    zt 1 (Q 1 u)) u) u) u) u) (
  br (v8 = 37) (
    w_nth x2 1 (fun v46 u => 
    w_definition v46 (fun v47 u => 
    w_defined v47 (fun u => 
    zt 1 (Q 1 u)) u) u) u) (
  br (v8 = 38) (
    w_nth x2 1 (fun v50 u => 
    w_theoremOf v50 (fun v51 u => 
    bd v51 60 (rd (u.2.1 44 v51) (fun v52 => 
    w_put v52 (fun u => 
    zt 1 (Q 1 u)) u))) u) u) (
  br (v8 = 39) (
    w_pour x3 (-1) (fun u => 
    w_nth x2 1 (fun v56 u => 
    w_concludes_522 Q v56 u) u) u) (
  br (v8 = 40) (
    w_notOf x4 (fun v62 u => 
    w_has x3 x4 (fun v63 u => 
    br (v63 = 0) (
      zt 0 (Q 0 u)) (
      ov (x3 + 1) (
      w_has (x3 + 1) v62 (fun v65 u => 
      br (v65 ≠ 0) (
        w_pour x3 x4 (fun u => 
        ov (x3 + 1) (
        w_pour (x3 + 1) v62 (fun u => 
        zt 1 (Q 1 u)) u)) u) (
        zt 0 (Q 0 u))) u))) u) u) (
  br (v8 = 41) (
    w_instanced x2 x3 (fun v70 u => 
    zt v70 (Q v70 u)) u) (
  br (v8 = 42) (
    w_beginsEqual x3 (fun v72 u => 
    br (v72 ≠ 0) (
      ov (30 * x3) (
      bd (30 * x3) 10500 (rd (u.2.1 145 (30 * x3)) (fun v74 => 
      w_term v74 2 (fun v75 u => 
      ov (30 * x3) (
      bd (30 * x3) 10500 (rd (u.2.1 145 (30 * x3)) (fun v77 => 
      w_term v77 1 (fun v78 u => 
      w_made2 4 v75 v78 (fun v79 u => 
      w_put v79 (fun u => 
      ov (30 * x3) (
      bd (30 * x3) 10500 (rd (u.2.1 145 (30 * x3)) (fun v82 => 
      w_pour x3 v82 (fun u => 
      zt 1 (Q 1 u)) u)))) u) u) u)))) u)))) (
      zt 0 (Q 0 u))) u) (
  br (v8 = 43) (
    w_replaced x3 (fun v85 u => 
    zt v85 (Q v85 u)) u) (
  w_inducts x2 x3 x4 (fun v87 u => 
  zt v87 (Q v87 u)) u)))))))))))))))))
set_option maxRecDepth 20000 in
set_option maxHeartbeats 4000000 in
theorem b_concludes_184 (X : kX p m c cX12_concludes 8 s args D ca) (hRf : 8 ≤ R.frames) (hRl : 191 ≤ R.locals) {Q : Int → iST → Prop} (hret : ∀ (v : Int) (u : iST) (H : Heap) (locs : List Loc) (ls : Array Slot) (pc : Nat), bz v → Q v u → kW D ca A h0 ad H0 H locs u → decode cX12_concludes pc = .ok (.ireturn, 1) → W p l e R s m args below meth c H locs 0 0 Qf (F0 m pc ls [.int (jI v)])) {x2 x3 x4 x5 y0 : Int} (rx2 : inR x2) (rx3 : inR x3) (rx4 : inR x4) (rx5 : inR x5) (ry0 : inR y0) (hw : kW D ca A h0 ad H0 H locs u) (hl : lv_has ls 8 [(0, .ref h0), (2, .int (jI x2)), (3, .int (jI x3)), (4, .int (jI x4)), (5, .int (jI x5))]) (h : w_concludes_184 Q x2 x3 x4 x5 y0 u) : W p l e R s m args below meth c H locs 0 0 Qf (F0 m 184 ls [.int (jI y0)]) := by
  have hx := X.1.1
  have hb := X.1.2.1
  unfold w_concludes_184 at h
  refine lv_istore hx hb dX12_concludes_184 hl (by decide) rfl (fun ls hl => ?_)
  have hl : lv_has ls 8 [(6, .int (jI y0)), (0, .ref (h0)), (2, .int (jI x2)), (3, .int (jI x3)), (4, .int (jI x4)), (5, .int (jI x5))] := hl
  refine lv_aload_n hx hb dX12_concludes_186 rfl (lv_at hl 1 rfl) ?_
  refine gA 0 8 (by decide) L_0 (fun _ _ => mF_0) rfl X hw dX12_concludes_187 ?_
  refine lv_iload_n hx hb dX12_concludes_190 rfl (lv_at hl 2 rfl) ?_
  refine aL 0 1 0 452000 (fun _ _ _ _ => mG_0) (fun _ => rfl) X hw rx2 dX12_concludes_191 rfl h (fun v8 rv8 h => ?_)
  refine br_sp h (fun ek h => ?_) (fun n12 h => ?_)
  · refine k_tabIn (tgt := 268) (off := 76) hx hb dX12_concludes_192 ek (by decide) (by decide) rfl rfl ?_
    refine lv_aload_n hx hb dX12_concludes_268 rfl (lv_at hl 1 rfl) ?_
    refine lv_iload hx hb dX12_concludes_269 (lv_at hl 4 rfl) ?_
    refine kcV (n := 1) (c_put rx4 h) G_put E_put X hw (Nat.le_trans (Nat.le_of_ble_eq_true rfl) hRf) (Nat.le_trans (Nat.le_of_ble_eq_true rfl) hRl) rfl hl.1 (Nat.le_of_ble_eq_true rfl) rfl dX12_concludes_271 (fun u H locs h hw => ?_)
    refine lv_aload_n hx hb dX12_concludes_274 rfl (lv_at hl 1 rfl) ?_
    refine lv_aload_n hx hb dX12_concludes_275 rfl (lv_at hl 1 rfl) ?_
    refine lv_iload hx hb dX12_concludes_276 (lv_at hl 4 rfl) ?_
    refine kcI (n := 1) (c_notOf rx4 h) G_notOf E_notOf X hw (Nat.le_trans (Nat.le_of_ble_eq_true rfl) hRf) (Nat.le_trans (Nat.le_of_ble_eq_true rfl) hRl) rfl hl.1 (Nat.le_of_ble_eq_true rfl) rfl dX12_concludes_278 (fun v10 u H locs rv10 h hw => ?_)
    refine kcV (n := 1) (c_put rv10 h) G_put E_put X hw (Nat.le_trans (Nat.le_of_ble_eq_true rfl) hRf) (Nat.le_trans (Nat.le_of_ble_eq_true rfl) hRl) rfl hl.1 (Nat.le_of_ble_eq_true rfl) rfl dX12_concludes_281 (fun u H locs h hw => ?_)
    refine lv_iconst hx hb dX12_concludes_284 (v := jI 1) rfl ?_
    exact hret _ _ _ _ _ _ h.1 h.2 hw dX12_concludes_285
  refine br_sp h (fun ek h => ?_) (fun n15 h => ?_)
  · refine k_tabIn (tgt := 286) (off := 94) hx hb dX12_concludes_192 ek (by decide) (by decide) rfl rfl ?_
    refine lv_aload_n hx hb dX12_concludes_286 rfl (lv_at hl 1 rfl) ?_
    refine lv_aload_n hx hb dX12_concludes_287 rfl (lv_at hl 1 rfl) ?_
    refine lv_iconst hx hb dX12_concludes_288 (v := jI 4) rfl ?_
    refine lv_iload hx hb dX12_concludes_289 (lv_at hl 4 rfl) ?_
    refine lv_iload hx hb dX12_concludes_291 (lv_at hl 4 rfl) ?_
    refine kcI (n := 3) (c_made2 (by decide) rx4 rx4 h) G_made2 E_made2 X hw (Nat.le_trans (Nat.le_of_ble_eq_true rfl) hRf) (Nat.le_trans (Nat.le_of_ble_eq_true rfl) hRl) rfl hl.1 (Nat.le_of_ble_eq_true rfl) rfl dX12_concludes_293 (fun v13 u H locs rv13 h hw => ?_)
    refine kcV (n := 1) (c_put rv13 h) G_put E_put X hw (Nat.le_trans (Nat.le_of_ble_eq_true rfl) hRf) (Nat.le_trans (Nat.le_of_ble_eq_true rfl) hRl) rfl hl.1 (Nat.le_of_ble_eq_true rfl) rfl dX12_concludes_296 (fun u H locs h hw => ?_)
    refine lv_iconst hx hb dX12_concludes_299 (v := jI 1) rfl ?_
    exact hret _ _ _ _ _ _ h.1 h.2 hw dX12_concludes_300
  refine br_sp h (fun ek h => ?_) (fun n20 h => ?_)
  · refine k_tabIn (tgt := 301) (off := 109) hx hb dX12_concludes_192 ek (by decide) (by decide) rfl rfl ?_
    refine lv_aload_n hx hb dX12_concludes_301 rfl (lv_at hl 1 rfl) ?_
    refine lv_aload_n hx hb dX12_concludes_302 rfl (lv_at hl 1 rfl) ?_
    refine lv_iconst hx hb dX12_concludes_303 (v := jI 4) rfl ?_
    refine lv_iload hx hb dX12_concludes_304 (lv_at hl 4 rfl) ?_
    refine lv_aload_n hx hb dX12_concludes_306 rfl (lv_at hl 1 rfl) ?_
    refine lv_aload_n hx hb dX12_concludes_307 rfl (lv_at hl 1 rfl) ?_
    refine lv_iload hx hb dX12_concludes_308 (lv_at hl 4 rfl) ?_
    refine kcI (n := 1) (c_told rx4 h) G_told E_told X hw (Nat.le_trans (Nat.le_of_ble_eq_true rfl) hRf) (Nat.le_trans (Nat.le_of_ble_eq_true rfl) hRl) rfl hl.1 (Nat.le_of_ble_eq_true rfl) rfl dX12_concludes_310 (fun v16 u H locs rv16 h hw => ?_)
    refine kcI (n := 1) (c_constantOf rv16 h) G_constantOf E_constantOf X hw (Nat.le_trans (Nat.le_of_ble_eq_true rfl) hRf) (Nat.le_trans (Nat.le_of_ble_eq_true rfl) hRl) rfl hl.1 (Nat.le_of_ble_eq_true rfl) rfl dX12_concludes_313 (fun v17 u H locs rv17 h hw => ?_)
    refine kcI (n := 3) (c_made2 (by decide) rx4 rv17 h) G_made2 E_made2 X hw (Nat.le_trans (Nat.le_of_ble_eq_true rfl) hRf) (Nat.le_trans (Nat.le_of_ble_eq_true rfl) hRl) rfl hl.1 (Nat.le_of_ble_eq_true rfl) rfl dX12_concludes_316 (fun v18 u H locs rv18 h hw => ?_)
    refine kcV (n := 1) (c_put rv18 h) G_put E_put X hw (Nat.le_trans (Nat.le_of_ble_eq_true rfl) hRf) (Nat.le_trans (Nat.le_of_ble_eq_true rfl) hRl) rfl hl.1 (Nat.le_of_ble_eq_true rfl) rfl dX12_concludes_319 (fun u H locs h hw => ?_)
    refine lv_iconst hx hb dX12_concludes_322 (v := jI 1) rfl ?_
    exact hret _ _ _ _ _ _ h.1 h.2 hw dX12_concludes_323
  refine br_sp h (fun ek h => ?_) (fun n25 h => ?_)
  · refine k_tabIn (tgt := 324) (off := 132) hx hb dX12_concludes_192 ek (by decide) (by decide) rfl rfl ?_
    refine lv_aload_n hx hb dX12_concludes_324 rfl (lv_at hl 1 rfl) ?_
    refine lv_aload_n hx hb dX12_concludes_325 rfl (lv_at hl 1 rfl) ?_
    refine lv_iconst hx hb dX12_concludes_326 (v := jI 4) rfl ?_
    refine lv_aload_n hx hb dX12_concludes_327 rfl (lv_at hl 1 rfl) ?_
    refine lv_bipush hx hb dX12_concludes_328 (v := jI 11) rfl ?_
    refine lv_aload_n hx hb dX12_concludes_330 rfl (lv_at hl 1 rfl) ?_
    refine lv_iconst hx hb dX12_concludes_331 (v := jI 5) rfl ?_
    refine lv_iload hx hb dX12_concludes_332 (lv_at hl 4 rfl) ?_
    refine lv_iload hx hb dX12_concludes_334 (lv_at hl 5 rfl) ?_
    refine kcI (n := 3) (c_made2 (by decide) rx4 rx5 h) G_made2 E_made2 X hw (Nat.le_trans (Nat.le_of_ble_eq_true rfl) hRf) (Nat.le_trans (Nat.le_of_ble_eq_true rfl) hRl) rfl hl.1 (Nat.le_of_ble_eq_true rfl) rfl dX12_concludes_336 (fun v21 u H locs rv21 h hw => ?_)
    refine lv_iconst hx hb dX12_concludes_339 (v := jI (-1)) rfl ?_
    refine lv_iconst hx hb dX12_concludes_340 (v := jI (-1)) rfl ?_
    refine kcI (n := 4) (c_made (by decide) rv21 (by decide) (by decide) h) G_made E_made X hw (Nat.le_trans (Nat.le_of_ble_eq_true rfl) hRf) (Nat.le_trans (Nat.le_of_ble_eq_true rfl) hRl) rfl hl.1 (Nat.le_of_ble_eq_true rfl) rfl dX12_concludes_341 (fun v22 u H locs rv22 h hw => ?_)
    refine lv_iload hx hb dX12_concludes_344 (lv_at hl 4 rfl) ?_
    refine kcI (n := 3) (c_made2 (by decide) rv22 rx4 h) G_made2 E_made2 X hw (Nat.le_trans (Nat.le_of_ble_eq_true rfl) hRf) (Nat.le_trans (Nat.le_of_ble_eq_true rfl) hRl) rfl hl.1 (Nat.le_of_ble_eq_true rfl) rfl dX12_concludes_346 (fun v23 u H locs rv23 h hw => ?_)
    refine kcV (n := 1) (c_put rv23 h) G_put E_put X hw (Nat.le_trans (Nat.le_of_ble_eq_true rfl) hRf) (Nat.le_trans (Nat.le_of_ble_eq_true rfl) hRl) rfl hl.1 (Nat.le_of_ble_eq_true rfl) rfl dX12_concludes_349 (fun u H locs h hw => ?_)
    refine lv_iconst hx hb dX12_concludes_352 (v := jI 1) rfl ?_
    exact hret _ _ _ _ _ _ h.1 h.2 hw dX12_concludes_353
  refine br_sp h (fun ek h => ?_) (fun n30 h => ?_)
  · refine k_tabIn (tgt := 354) (off := 162) hx hb dX12_concludes_192 ek (by decide) (by decide) rfl rfl ?_
    refine lv_aload_n hx hb dX12_concludes_354 rfl (lv_at hl 1 rfl) ?_
    refine lv_aload_n hx hb dX12_concludes_355 rfl (lv_at hl 1 rfl) ?_
    refine lv_iconst hx hb dX12_concludes_356 (v := jI 4) rfl ?_
    refine lv_aload_n hx hb dX12_concludes_357 rfl (lv_at hl 1 rfl) ?_
    refine lv_bipush hx hb dX12_concludes_358 (v := jI 12) rfl ?_
    refine lv_aload_n hx hb dX12_concludes_360 rfl (lv_at hl 1 rfl) ?_
    refine lv_iconst hx hb dX12_concludes_361 (v := jI 5) rfl ?_
    refine lv_iload hx hb dX12_concludes_362 (lv_at hl 4 rfl) ?_
    refine lv_iload hx hb dX12_concludes_364 (lv_at hl 5 rfl) ?_
    refine kcI (n := 3) (c_made2 (by decide) rx4 rx5 h) G_made2 E_made2 X hw (Nat.le_trans (Nat.le_of_ble_eq_true rfl) hRf) (Nat.le_trans (Nat.le_of_ble_eq_true rfl) hRl) rfl hl.1 (Nat.le_of_ble_eq_true rfl) rfl dX12_concludes_366 (fun v26 u H locs rv26 h hw => ?_)
    refine lv_iconst hx hb dX12_concludes_369 (v := jI (-1)) rfl ?_
    refine lv_iconst hx hb dX12_concludes_370 (v := jI (-1)) rfl ?_
    refine kcI (n := 4) (c_made (by decide) rv26 (by decide) (by decide) h) G_made E_made X hw (Nat.le_trans (Nat.le_of_ble_eq_true rfl) hRf) (Nat.le_trans (Nat.le_of_ble_eq_true rfl) hRl) rfl hl.1 (Nat.le_of_ble_eq_true rfl) rfl dX12_concludes_371 (fun v27 u H locs rv27 h hw => ?_)
    refine lv_iload hx hb dX12_concludes_374 (lv_at hl 5 rfl) ?_
    refine kcI (n := 3) (c_made2 (by decide) rv27 rx5 h) G_made2 E_made2 X hw (Nat.le_trans (Nat.le_of_ble_eq_true rfl) hRf) (Nat.le_trans (Nat.le_of_ble_eq_true rfl) hRl) rfl hl.1 (Nat.le_of_ble_eq_true rfl) rfl dX12_concludes_376 (fun v28 u H locs rv28 h hw => ?_)
    refine kcV (n := 1) (c_put rv28 h) G_put E_put X hw (Nat.le_trans (Nat.le_of_ble_eq_true rfl) hRf) (Nat.le_trans (Nat.le_of_ble_eq_true rfl) hRl) rfl hl.1 (Nat.le_of_ble_eq_true rfl) rfl dX12_concludes_379 (fun u H locs h hw => ?_)
    refine lv_iconst hx hb dX12_concludes_382 (v := jI 1) rfl ?_
    exact hret _ _ _ _ _ _ h.1 h.2 hw dX12_concludes_383
  refine br_sp h (fun ek h => ?_) (fun n34 h => ?_)
  · refine k_tabIn (tgt := 384) (off := 192) hx hb dX12_concludes_192 ek (by decide) (by decide) rfl rfl ?_
    refine lv_aload_n hx hb dX12_concludes_384 rfl (lv_at hl 1 rfl) ?_
    refine lv_aload_n hx hb dX12_concludes_385 rfl (lv_at hl 1 rfl) ?_
    refine lv_bipush hx hb dX12_concludes_386 (v := jI 10) rfl ?_
    refine lv_aload_n hx hb dX12_concludes_388 rfl (lv_at hl 1 rfl) ?_
    refine lv_iconst hx hb dX12_concludes_389 (v := jI 5) rfl ?_
    refine lv_iload hx hb dX12_concludes_390 (lv_at hl 4 rfl) ?_
    refine lv_iload hx hb dX12_concludes_392 (lv_at hl 5 rfl) ?_
    refine kcI (n := 3) (c_made2 (by decide) rx4 rx5 h) G_made2 E_made2 X hw (Nat.le_trans (Nat.le_of_ble_eq_true rfl) hRf) (Nat.le_trans (Nat.le_of_ble_eq_true rfl) hRl) rfl hl.1 (Nat.le_of_ble_eq_true rfl) rfl dX12_concludes_394 (fun v31 u H locs rv31 h hw => ?_)
    refine lv_iconst hx hb dX12_concludes_397 (v := jI (-1)) rfl ?_
    refine lv_iconst hx hb dX12_concludes_398 (v := jI (-1)) rfl ?_
    refine kcI (n := 4) (c_made (by decide) rv31 (by decide) (by decide) h) G_made E_made X hw (Nat.le_trans (Nat.le_of_ble_eq_true rfl) hRf) (Nat.le_trans (Nat.le_of_ble_eq_true rfl) hRl) rfl hl.1 (Nat.le_of_ble_eq_true rfl) rfl dX12_concludes_399 (fun v32 u H locs rv32 h hw => ?_)
    refine kcV (n := 1) (c_put rv32 h) G_put E_put X hw (Nat.le_trans (Nat.le_of_ble_eq_true rfl) hRf) (Nat.le_trans (Nat.le_of_ble_eq_true rfl) hRl) rfl hl.1 (Nat.le_of_ble_eq_true rfl) rfl dX12_concludes_402 (fun u H locs h hw => ?_)
    refine lv_iconst hx hb dX12_concludes_405 (v := jI 1) rfl ?_
    exact hret _ _ _ _ _ _ h.1 h.2 hw dX12_concludes_406
  refine br_sp h (fun ek h => ?_) (fun n40 h => ?_)
  · refine k_tabIn (tgt := 407) (off := 215) hx hb dX12_concludes_192 ek (by decide) (by decide) rfl rfl ?_
    refine lv_aload_n hx hb dX12_concludes_407 rfl (lv_at hl 1 rfl) ?_
    refine lv_aload_n hx hb dX12_concludes_408 rfl (lv_at hl 1 rfl) ?_
    refine lv_iload hx hb dX12_concludes_409 (lv_at hl 4 rfl) ?_
    refine kcI (n := 1) (c_notOf rx4 h) G_notOf E_notOf X hw (Nat.le_trans (Nat.le_of_ble_eq_true rfl) hRf) (Nat.le_trans (Nat.le_of_ble_eq_true rfl) hRl) rfl hl.1 (Nat.le_of_ble_eq_true rfl) rfl dX12_concludes_411 (fun v35 u H locs rv35 h hw => ?_)
    refine kcV (n := 1) (c_put rv35 h) G_put E_put X hw (Nat.le_trans (Nat.le_of_ble_eq_true rfl) hRf) (Nat.le_trans (Nat.le_of_ble_eq_true rfl) hRl) rfl hl.1 (Nat.le_of_ble_eq_true rfl) rfl dX12_concludes_414 (fun u H locs h hw => ?_)
    refine lv_aload_n hx hb dX12_concludes_417 rfl (lv_at hl 1 rfl) ?_
    refine lv_aload_n hx hb dX12_concludes_418 rfl (lv_at hl 1 rfl) ?_
    refine lv_iconst hx hb dX12_concludes_419 (v := jI 4) rfl ?_
    refine lv_aload_n hx hb dX12_concludes_420 rfl (lv_at hl 1 rfl) ?_
    refine lv_iconst hx hb dX12_concludes_421 (v := jI 3) rfl ?_
    refine lv_iload hx hb dX12_concludes_422 (lv_at hl 4 rfl) ?_
    refine lv_iload hx hb dX12_concludes_424 (lv_at hl 5 rfl) ?_
    refine lv_iload hx hb dX12_concludes_426 (lv_at hl 0 rfl) ?_
    refine kcI (n := 4) (c_made (by decide) rx4 rx5 ry0 h) G_made E_made X hw (Nat.le_trans (Nat.le_of_ble_eq_true rfl) hRf) (Nat.le_trans (Nat.le_of_ble_eq_true rfl) hRl) rfl hl.1 (Nat.le_of_ble_eq_true rfl) rfl dX12_concludes_428 (fun v37 u H locs rv37 h hw => ?_)
    refine lv_iload hx hb dX12_concludes_431 (lv_at hl 5 rfl) ?_
    refine kcI (n := 3) (c_made2 (by decide) rv37 rx5 h) G_made2 E_made2 X hw (Nat.le_trans (Nat.le_of_ble_eq_true rfl) hRf) (Nat.le_trans (Nat.le_of_ble_eq_true rfl) hRl) rfl hl.1 (Nat.le_of_ble_eq_true rfl) rfl dX12_concludes_433 (fun v38 u H locs rv38 h hw => ?_)
    refine kcV (n := 1) (c_put rv38 h) G_put E_put X hw (Nat.le_trans (Nat.le_of_ble_eq_true rfl) hRf) (Nat.le_trans (Nat.le_of_ble_eq_true rfl) hRl) rfl hl.1 (Nat.le_of_ble_eq_true rfl) rfl dX12_concludes_436 (fun u H locs h hw => ?_)
    refine lv_iconst hx hb dX12_concludes_439 (v := jI 1) rfl ?_
    exact hret _ _ _ _ _ _ h.1 h.2 hw dX12_concludes_440
  refine br_sp h (fun ek h => ?_) (fun n45 h => ?_)
  · refine k_tabIn (tgt := 441) (off := 249) hx hb dX12_concludes_192 ek (by decide) (by decide) rfl rfl ?_
    refine lv_aload_n hx hb dX12_concludes_441 rfl (lv_at hl 1 rfl) ?_
    refine lv_iload hx hb dX12_concludes_442 (lv_at hl 4 rfl) ?_
    refine kcV (n := 1) (c_put rx4 h) G_put E_put X hw (Nat.le_trans (Nat.le_of_ble_eq_true rfl) hRf) (Nat.le_trans (Nat.le_of_ble_eq_true rfl) hRl) rfl hl.1 (Nat.le_of_ble_eq_true rfl) rfl dX12_concludes_444 (fun u H locs h hw => ?_)
    refine lv_aload_n hx hb dX12_concludes_447 rfl (lv_at hl 1 rfl) ?_
    refine lv_aload_n hx hb dX12_concludes_448 rfl (lv_at hl 1 rfl) ?_
    refine lv_iconst hx hb dX12_concludes_449 (v := jI 4) rfl ?_
    refine lv_aload_n hx hb dX12_concludes_450 rfl (lv_at hl 1 rfl) ?_
    refine lv_iconst hx hb dX12_concludes_451 (v := jI 3) rfl ?_
    refine lv_iload hx hb dX12_concludes_452 (lv_at hl 4 rfl) ?_
    refine lv_iload hx hb dX12_concludes_454 (lv_at hl 5 rfl) ?_
    refine lv_iload hx hb dX12_concludes_456 (lv_at hl 0 rfl) ?_
    refine kcI (n := 4) (c_made (by decide) rx4 rx5 ry0 h) G_made E_made X hw (Nat.le_trans (Nat.le_of_ble_eq_true rfl) hRf) (Nat.le_trans (Nat.le_of_ble_eq_true rfl) hRl) rfl hl.1 (Nat.le_of_ble_eq_true rfl) rfl dX12_concludes_458 (fun v42 u H locs rv42 h hw => ?_)
    refine lv_iload hx hb dX12_concludes_461 (lv_at hl 0 rfl) ?_
    refine kcI (n := 3) (c_made2 (by decide) rv42 ry0 h) G_made2 E_made2 X hw (Nat.le_trans (Nat.le_of_ble_eq_true rfl) hRf) (Nat.le_trans (Nat.le_of_ble_eq_true rfl) hRl) rfl hl.1 (Nat.le_of_ble_eq_true rfl) rfl dX12_concludes_463 (fun v43 u H locs rv43 h hw => ?_)
    refine kcV (n := 1) (c_put rv43 h) G_put E_put X hw (Nat.le_trans (Nat.le_of_ble_eq_true rfl) hRf) (Nat.le_trans (Nat.le_of_ble_eq_true rfl) hRl) rfl hl.1 (Nat.le_of_ble_eq_true rfl) rfl dX12_concludes_466 (fun u H locs h hw => ?_)
    refine lv_iconst hx hb dX12_concludes_469 (v := jI 1) rfl ?_
    exact hret _ _ _ _ _ _ h.1 h.2 hw dX12_concludes_470
  refine br_sp h (fun ek h => ?_) (fun n49 h => ?_)
  · refine k_tabIn (tgt := 471) (off := 279) hx hb dX12_concludes_192 ek (by decide) (by decide) rfl rfl ?_
    refine lv_aload_n hx hb dX12_concludes_471 rfl (lv_at hl 1 rfl) ?_
    refine lv_aload_n hx hb dX12_concludes_472 rfl (lv_at hl 1 rfl) ?_
    refine lv_aload_n hx hb dX12_concludes_473 rfl (lv_at hl 1 rfl) ?_
    refine lv_iload_n hx hb dX12_concludes_474 rfl (lv_at hl 2 rfl) ?_
    refine lv_iconst hx hb dX12_concludes_475 (v := jI 1) rfl ?_
    refine kcI (n := 2) (c_nth rx2 (by decide) h) G_nth E_nth X hw (Nat.le_trans (Nat.le_of_ble_eq_true rfl) hRf) (Nat.le_trans (Nat.le_of_ble_eq_true rfl) hRl) rfl hl.1 (Nat.le_of_ble_eq_true rfl) rfl dX12_concludes_476 (fun v46 u H locs rv46 h hw => ?_)
    refine kcI (n := 1) (c_definition rv46 h) G_definition E_definition X hw (Nat.le_trans (Nat.le_of_ble_eq_true rfl) hRf) (Nat.le_trans (Nat.le_of_ble_eq_true rfl) hRl) rfl hl.1 (Nat.le_of_ble_eq_true rfl) rfl dX12_concludes_479 (fun v47 u H locs rv47 h hw => ?_)
    refine kcV (n := 1) (c_defined rv47 h) G_defined E_defined X hw (Nat.le_trans (Nat.le_of_ble_eq_true rfl) hRf) (Nat.le_trans (Nat.le_of_ble_eq_true rfl) hRl) rfl hl.1 (Nat.le_of_ble_eq_true rfl) rfl dX12_concludes_482 (fun u H locs h hw => ?_)
    refine lv_iconst hx hb dX12_concludes_485 (v := jI 1) rfl ?_
    exact hret _ _ _ _ _ _ h.1 h.2 hw dX12_concludes_486
  refine br_sp h (fun ek h => ?_) (fun n54 h => ?_)
  · refine k_tabIn (tgt := 487) (off := 295) hx hb dX12_concludes_192 ek (by decide) (by decide) rfl rfl ?_
    refine lv_aload_n hx hb dX12_concludes_487 rfl (lv_at hl 1 rfl) ?_
    refine lv_aload_n hx hb dX12_concludes_488 rfl (lv_at hl 1 rfl) ?_
    refine gA 44 100 (by decide) L_44 (fun _ _ => mF_44) rfl X hw dX12_concludes_489 ?_
    refine lv_aload_n hx hb dX12_concludes_492 rfl (lv_at hl 1 rfl) ?_
    refine lv_aload_n hx hb dX12_concludes_493 rfl (lv_at hl 1 rfl) ?_
    refine lv_iload_n hx hb dX12_concludes_494 rfl (lv_at hl 2 rfl) ?_
    refine lv_iconst hx hb dX12_concludes_495 (v := jI 1) rfl ?_
    refine kcI (n := 2) (c_nth rx2 (by decide) h) G_nth E_nth X hw (Nat.le_trans (Nat.le_of_ble_eq_true rfl) hRf) (Nat.le_trans (Nat.le_of_ble_eq_true rfl) hRl) rfl hl.1 (Nat.le_of_ble_eq_true rfl) rfl dX12_concludes_496 (fun v50 u H locs rv50 h hw => ?_)
    refine kcI (n := 1) (c_theoremOf rv50 h) G_theoremOf E_theoremOf X hw (Nat.le_trans (Nat.le_of_ble_eq_true rfl) hRf) (Nat.le_trans (Nat.le_of_ble_eq_true rfl) hRl) rfl hl.1 (Nat.le_of_ble_eq_true rfl) rfl dX12_concludes_499 (fun v51 u H locs rv51 h hw => ?_)
    refine aL 44 28 27 60 (fun _ _ _ _ => mG_44) (fun _ => rfl) X hw rv51 dX12_concludes_502 rfl h (fun v52 rv52 h => ?_)
    refine kcV (n := 1) (c_put rv52 h) G_put E_put X hw (Nat.le_trans (Nat.le_of_ble_eq_true rfl) hRf) (Nat.le_trans (Nat.le_of_ble_eq_true rfl) hRl) rfl hl.1 (Nat.le_of_ble_eq_true rfl) rfl dX12_concludes_503 (fun u H locs h hw => ?_)
    refine lv_iconst hx hb dX12_concludes_506 (v := jI 1) rfl ?_
    exact hret _ _ _ _ _ _ h.1 h.2 hw dX12_concludes_507
  refine br_sp h (fun ek h => ?_) (fun n61 h => ?_)
  · refine k_tabIn (tgt := 508) (off := 316) hx hb dX12_concludes_192 ek (by decide) (by decide) rfl rfl ?_
    refine lv_aload_n hx hb dX12_concludes_508 rfl (lv_at hl 1 rfl) ?_
    refine lv_iload_n hx hb dX12_concludes_509 rfl (lv_at hl 3 rfl) ?_
    refine lv_iconst hx hb dX12_concludes_510 (v := jI (-1)) rfl ?_
    refine kcV (n := 2) (c_pour rx3 (by decide) h) G_pour E_pour X hw (Nat.le_trans (Nat.le_of_ble_eq_true rfl) hRf) (Nat.le_trans (Nat.le_of_ble_eq_true rfl) hRl) rfl hl.1 (Nat.le_of_ble_eq_true rfl) rfl dX12_concludes_511 (fun u H locs h hw => ?_)
    refine lv_aload_n hx hb dX12_concludes_514 rfl (lv_at hl 1 rfl) ?_
    refine lv_iload_n hx hb dX12_concludes_515 rfl (lv_at hl 2 rfl) ?_
    refine lv_iconst hx hb dX12_concludes_516 (v := jI 1) rfl ?_
    refine kcI (n := 2) (c_nth rx2 (by decide) h) G_nth E_nth X hw (Nat.le_trans (Nat.le_of_ble_eq_true rfl) hRf) (Nat.le_trans (Nat.le_of_ble_eq_true rfl) hRl) rfl hl.1 (Nat.le_of_ble_eq_true rfl) rfl dX12_concludes_517 (fun v56 u H locs rv56 h hw => ?_)
    refine lv_istore hx hb dX12_concludes_520 hl (by decide) rfl (fun ls hl => ?_)
    have hl : lv_has ls 8 [(7, .int (jI v56)), (6, .int (jI y0)), (0, .ref (h0)), (2, .int (jI x2)), (3, .int (jI x3)), (4, .int (jI x4)), (5, .int (jI x5))] := hl
    exact b_concludes_522 X hRf hRl hret rv56 hw (lv_sub hl [2, 0] rfl) h
  refine br_sp h (fun ek h => ?_) (fun n69 h => ?_)
  · refine k_tabIn (tgt := 556) (off := 364) hx hb dX12_concludes_192 ek (by decide) (by decide) rfl rfl ?_
    refine lv_aload_n hx hb dX12_concludes_556 rfl (lv_at hl 1 rfl) ?_
    refine lv_iload hx hb dX12_concludes_557 (lv_at hl 4 rfl) ?_
    refine kcI (n := 1) (c_notOf rx4 h) G_notOf E_notOf X hw (Nat.le_trans (Nat.le_of_ble_eq_true rfl) hRf) (Nat.le_trans (Nat.le_of_ble_eq_true rfl) hRl) rfl hl.1 (Nat.le_of_ble_eq_true rfl) rfl dX12_concludes_559 (fun v62 u H locs rv62 h hw => ?_)
    refine lv_istore hx hb dX12_concludes_562 hl (by decide) rfl (fun ls hl => ?_)
    have hl : lv_has ls 8 [(7, .int (jI v62)), (6, .int (jI y0)), (0, .ref (h0)), (2, .int (jI x2)), (3, .int (jI x3)), (4, .int (jI x4)), (5, .int (jI x5))] := hl
    refine lv_aload_n hx hb dX12_concludes_564 rfl (lv_at hl 2 rfl) ?_
    refine lv_iload_n hx hb dX12_concludes_565 rfl (lv_at hl 4 rfl) ?_
    refine lv_iload hx hb dX12_concludes_566 (lv_at hl 5 rfl) ?_
    refine kcI (n := 2) (c_has rx3 rx4 h) G_has E_has X hw (Nat.le_trans (Nat.le_of_ble_eq_true rfl) hRf) (Nat.le_trans (Nat.le_of_ble_eq_true rfl) hRl) rfl hl.1 (Nat.le_of_ble_eq_true rfl) rfl dX12_concludes_568 (fun v63 u H locs rv63 h hw => ?_)
    refine k_if_eq hx hb rv63 dX12_concludes_571 (tgt := 586) rfl h (fun h => ?_) (fun h => ?_)
    · refine lv_iconst hx hb dX12_concludes_586 (v := jI 0) rfl ?_
      exact hret _ _ _ _ _ _ h.1 h.2 hw dX12_concludes_587
    · refine lv_aload_n hx hb dX12_concludes_574 rfl (lv_at hl 2 rfl) ?_
      refine lv_iload_n hx hb dX12_concludes_575 rfl (lv_at hl 4 rfl) ?_
      refine lv_iconst hx hb dX12_concludes_576 (v := jI 1) rfl ?_
      refine k_iadd hx hb dX12_concludes_577 h (fun r64 h => ?_)
      refine lv_iload hx hb dX12_concludes_578 (lv_at hl 0 rfl) ?_
      refine kcI (n := 2) (c_has r64 rv62 h) G_has E_has X hw (Nat.le_trans (Nat.le_of_ble_eq_true rfl) hRf) (Nat.le_trans (Nat.le_of_ble_eq_true rfl) hRl) rfl hl.1 (Nat.le_of_ble_eq_true rfl) rfl dX12_concludes_580 (fun v65 u H locs rv65 h hw => ?_)
      refine k_if_ne hx hb rv65 dX12_concludes_583 (tgt := 588) rfl h (fun h => ?_) (fun h => ?_)
      · refine lv_aload_n hx hb dX12_concludes_588 rfl (lv_at hl 2 rfl) ?_
        refine lv_iload_n hx hb dX12_concludes_589 rfl (lv_at hl 4 rfl) ?_
        refine lv_iload hx hb dX12_concludes_590 (lv_at hl 5 rfl) ?_
        refine kcV (n := 2) (c_pour rx3 rx4 h) G_pour E_pour X hw (Nat.le_trans (Nat.le_of_ble_eq_true rfl) hRf) (Nat.le_trans (Nat.le_of_ble_eq_true rfl) hRl) rfl hl.1 (Nat.le_of_ble_eq_true rfl) rfl dX12_concludes_592 (fun u H locs h hw => ?_)
        refine lv_aload_n hx hb dX12_concludes_595 rfl (lv_at hl 2 rfl) ?_
        refine lv_iload_n hx hb dX12_concludes_596 rfl (lv_at hl 4 rfl) ?_
        refine lv_iconst hx hb dX12_concludes_597 (v := jI 1) rfl ?_
        refine k_iadd hx hb dX12_concludes_598 h (fun r67 h => ?_)
        refine lv_iload hx hb dX12_concludes_599 (lv_at hl 0 rfl) ?_
        refine kcV (n := 2) (c_pour r67 rv62 h) G_pour E_pour X hw (Nat.le_trans (Nat.le_of_ble_eq_true rfl) hRf) (Nat.le_trans (Nat.le_of_ble_eq_true rfl) hRl) rfl hl.1 (Nat.le_of_ble_eq_true rfl) rfl dX12_concludes_601 (fun u H locs h hw => ?_)
        refine lv_iconst hx hb dX12_concludes_604 (v := jI 1) rfl ?_
        exact hret _ _ _ _ _ _ h.1 h.2 hw dX12_concludes_605
      · refine lv_iconst hx hb dX12_concludes_586 (v := jI 0) rfl ?_
        exact hret _ _ _ _ _ _ h.1 h.2 hw dX12_concludes_587
  refine br_sp h (fun ek h => ?_) (fun n71 h => ?_)
  · refine k_tabIn (tgt := 606) (off := 414) hx hb dX12_concludes_192 ek (by decide) (by decide) rfl rfl ?_
    refine lv_aload_n hx hb dX12_concludes_606 rfl (lv_at hl 1 rfl) ?_
    refine lv_iload_n hx hb dX12_concludes_607 rfl (lv_at hl 2 rfl) ?_
    refine lv_iload_n hx hb dX12_concludes_608 rfl (lv_at hl 3 rfl) ?_
    refine kcI (n := 2) (c_instanced rx2 rx3 h) G_instanced E_instanced X hw (Nat.le_trans (Nat.le_of_ble_eq_true rfl) hRf) (Nat.le_trans (Nat.le_of_ble_eq_true rfl) hRl) rfl hl.1 (Nat.le_of_ble_eq_true rfl) rfl dX12_concludes_609 (fun v70 u H locs rv70 h hw => ?_)
    exact hret _ _ _ _ _ _ h.1 h.2 hw dX12_concludes_612
  refine br_sp h (fun ek h => ?_) (fun n84 h => ?_)
  · refine k_tabIn (tgt := 613) (off := 421) hx hb dX12_concludes_192 ek (by decide) (by decide) rfl rfl ?_
    refine lv_aload_n hx hb dX12_concludes_613 rfl (lv_at hl 1 rfl) ?_
    refine lv_iload_n hx hb dX12_concludes_614 rfl (lv_at hl 3 rfl) ?_
    refine kcI (n := 1) (c_beginsEqual rx3 h) G_beginsEqual E_beginsEqual X hw (Nat.le_trans (Nat.le_of_ble_eq_true rfl) hRf) (Nat.le_trans (Nat.le_of_ble_eq_true rfl) hRl) rfl hl.1 (Nat.le_of_ble_eq_true rfl) rfl dX12_concludes_615 (fun v72 u H locs rv72 h hw => ?_)
    refine k_if_ne hx hb rv72 dX12_concludes_618 (tgt := 623) rfl h (fun h => ?_) (fun h => ?_)
    · refine lv_aload_n hx hb dX12_concludes_623 rfl (lv_at hl 1 rfl) ?_
      refine lv_aload_n hx hb dX12_concludes_624 rfl (lv_at hl 1 rfl) ?_
      refine lv_iconst hx hb dX12_concludes_625 (v := jI 4) rfl ?_
      refine lv_aload_n hx hb dX12_concludes_626 rfl (lv_at hl 1 rfl) ?_
      refine lv_aload_n hx hb dX12_concludes_627 rfl (lv_at hl 1 rfl) ?_
      refine gA 145 299 (by decide) L_145 (fun _ _ => mF_145) rfl X hw dX12_concludes_628 ?_
      refine lv_bipush hx hb dX12_concludes_631 (v := jI 30) rfl ?_
      refine lv_iload_n hx hb dX12_concludes_633 rfl (lv_at hl 3 rfl) ?_
      refine k_imul hx hb dX12_concludes_634 h (fun r73 h => ?_)
      refine aL 145 92 91 10500 (fun _ _ _ _ => mG_145) (fun _ => rfl) X hw r73 dX12_concludes_635 rfl h (fun v74 rv74 h => ?_)
      refine lv_iconst hx hb dX12_concludes_636 (v := jI 2) rfl ?_
      refine kcI (n := 2) (c_term rv74 (by decide) h) G_term E_term X hw (Nat.le_trans (Nat.le_of_ble_eq_true rfl) hRf) (Nat.le_trans (Nat.le_of_ble_eq_true rfl) hRl) rfl hl.1 (Nat.le_of_ble_eq_true rfl) rfl dX12_concludes_637 (fun v75 u H locs rv75 h hw => ?_)
      refine lv_aload_n hx hb dX12_concludes_640 rfl (lv_at hl 1 rfl) ?_
      refine lv_aload_n hx hb dX12_concludes_641 rfl (lv_at hl 1 rfl) ?_
      refine gA 145 299 (by decide) L_145 (fun _ _ => mF_145) rfl X hw dX12_concludes_642 ?_
      refine lv_bipush hx hb dX12_concludes_645 (v := jI 30) rfl ?_
      refine lv_iload_n hx hb dX12_concludes_647 rfl (lv_at hl 3 rfl) ?_
      refine k_imul hx hb dX12_concludes_648 h (fun r76 h => ?_)
      refine aL 145 92 91 10500 (fun _ _ _ _ => mG_145) (fun _ => rfl) X hw r76 dX12_concludes_649 rfl h (fun v77 rv77 h => ?_)
      refine lv_iconst hx hb dX12_concludes_650 (v := jI 1) rfl ?_
      refine kcI (n := 2) (c_term rv77 (by decide) h) G_term E_term X hw (Nat.le_trans (Nat.le_of_ble_eq_true rfl) hRf) (Nat.le_trans (Nat.le_of_ble_eq_true rfl) hRl) rfl hl.1 (Nat.le_of_ble_eq_true rfl) rfl dX12_concludes_651 (fun v78 u H locs rv78 h hw => ?_)
      refine kcI (n := 3) (c_made2 (by decide) rv75 rv78 h) G_made2 E_made2 X hw (Nat.le_trans (Nat.le_of_ble_eq_true rfl) hRf) (Nat.le_trans (Nat.le_of_ble_eq_true rfl) hRl) rfl hl.1 (Nat.le_of_ble_eq_true rfl) rfl dX12_concludes_654 (fun v79 u H locs rv79 h hw => ?_)
      refine kcV (n := 1) (c_put rv79 h) G_put E_put X hw (Nat.le_trans (Nat.le_of_ble_eq_true rfl) hRf) (Nat.le_trans (Nat.le_of_ble_eq_true rfl) hRl) rfl hl.1 (Nat.le_of_ble_eq_true rfl) rfl dX12_concludes_657 (fun u H locs h hw => ?_)
      refine lv_aload_n hx hb dX12_concludes_660 rfl (lv_at hl 1 rfl) ?_
      refine lv_iload_n hx hb dX12_concludes_661 rfl (lv_at hl 3 rfl) ?_
      refine lv_aload_n hx hb dX12_concludes_662 rfl (lv_at hl 1 rfl) ?_
      refine gA 145 299 (by decide) L_145 (fun _ _ => mF_145) rfl X hw dX12_concludes_663 ?_
      refine lv_bipush hx hb dX12_concludes_666 (v := jI 30) rfl ?_
      refine lv_iload_n hx hb dX12_concludes_668 rfl (lv_at hl 3 rfl) ?_
      refine k_imul hx hb dX12_concludes_669 h (fun r81 h => ?_)
      refine aL 145 92 91 10500 (fun _ _ _ _ => mG_145) (fun _ => rfl) X hw r81 dX12_concludes_670 rfl h (fun v82 rv82 h => ?_)
      refine kcV (n := 2) (c_pour rx3 rv82 h) G_pour E_pour X hw (Nat.le_trans (Nat.le_of_ble_eq_true rfl) hRf) (Nat.le_trans (Nat.le_of_ble_eq_true rfl) hRl) rfl hl.1 (Nat.le_of_ble_eq_true rfl) rfl dX12_concludes_671 (fun u H locs h hw => ?_)
      refine lv_iconst hx hb dX12_concludes_674 (v := jI 1) rfl ?_
      exact hret _ _ _ _ _ _ h.1 h.2 hw dX12_concludes_675
    · refine lv_iconst hx hb dX12_concludes_621 (v := jI 0) rfl ?_
      exact hret _ _ _ _ _ _ h.1 h.2 hw dX12_concludes_622
  refine br_sp h (fun ek h => ?_) (fun n86 h => ?_)
  · refine k_tabIn (tgt := 676) (off := 484) hx hb dX12_concludes_192 ek (by decide) (by decide) rfl rfl ?_
    refine lv_aload_n hx hb dX12_concludes_676 rfl (lv_at hl 1 rfl) ?_
    refine lv_iload_n hx hb dX12_concludes_677 rfl (lv_at hl 3 rfl) ?_
    refine kcI (n := 1) (c_replaced rx3 h) G_replaced E_replaced X hw (Nat.le_trans (Nat.le_of_ble_eq_true rfl) hRf) (Nat.le_trans (Nat.le_of_ble_eq_true rfl) hRl) rfl hl.1 (Nat.le_of_ble_eq_true rfl) rfl dX12_concludes_678 (fun v85 u H locs rv85 h hw => ?_)
    exact hret _ _ _ _ _ _ h.1 h.2 hw dX12_concludes_681
  refine k_tabOut (tgt := 682) hx hb rv8 dX12_concludes_192 (by omega) rfl ?_
  refine lv_aload_n hx hb dX12_concludes_682 rfl (lv_at hl 1 rfl) ?_
  refine lv_iload_n hx hb dX12_concludes_683 rfl (lv_at hl 2 rfl) ?_
  refine lv_iload_n hx hb dX12_concludes_684 rfl (lv_at hl 3 rfl) ?_
  refine lv_iload hx hb dX12_concludes_685 (lv_at hl 4 rfl) ?_
  refine kcI (n := 3) (c_inducts rx2 rx3 rx4 h) G_inducts E_inducts X hw (Nat.le_trans (Nat.le_of_ble_eq_true rfl) hRf) (Nat.le_trans (Nat.le_of_ble_eq_true rfl) hRl) rfl hl.1 (Nat.le_of_ble_eq_true rfl) rfl dX12_concludes_687 (fun v87 u H locs rv87 h hw => ?_)
  exact hret _ _ _ _ _ _ h.1 h.2 hw dX12_concludes_690

def w_concludes_170 (Q : Int → iST → Prop) (x2 : Int) (x3 : Int) (x4 : Int) (x5 : Int) (u : iST) : Prop :=
  w_nth x2 3 (fun v6 u => 
  w_termOf v6 (fun v7 u => 
  w_concludes_184 Q x2 x3 x4 x5 v7 u) u) u
set_option maxRecDepth 20000 in
set_option maxHeartbeats 4000000 in
theorem b_concludes_170 (X : kX p m c cX12_concludes 8 s args D ca) (hRf : 8 ≤ R.frames) (hRl : 191 ≤ R.locals) {Q : Int → iST → Prop} (hret : ∀ (v : Int) (u : iST) (H : Heap) (locs : List Loc) (ls : Array Slot) (pc : Nat), bz v → Q v u → kW D ca A h0 ad H0 H locs u → decode cX12_concludes pc = .ok (.ireturn, 1) → W p l e R s m args below meth c H locs 0 0 Qf (F0 m pc ls [.int (jI v)])) {x2 x3 x4 x5 : Int} (rx2 : inR x2) (rx3 : inR x3) (rx4 : inR x4) (rx5 : inR x5) (hw : kW D ca A h0 ad H0 H locs u) (hl : lv_has ls 8 [(0, .ref h0), (2, .int (jI x2)), (3, .int (jI x3)), (4, .int (jI x4)), (5, .int (jI x5))]) (h : w_concludes_170 Q x2 x3 x4 x5 u) : W p l e R s m args below meth c H locs 0 0 Qf (F0 m 170 ls []) := by
  have hx := X.1.1
  have hb := X.1.2.1
  unfold w_concludes_170 at h
  refine lv_aload_n hx hb dX12_concludes_170 rfl (lv_at hl 0 rfl) ?_
  refine lv_aload_n hx hb dX12_concludes_171 rfl (lv_at hl 0 rfl) ?_
  refine lv_iload_n hx hb dX12_concludes_172 rfl (lv_at hl 1 rfl) ?_
  refine lv_iconst hx hb dX12_concludes_173 (v := jI 3) rfl ?_
  refine kcI (n := 2) (c_nth rx2 (by decide) h) G_nth E_nth X hw (Nat.le_trans (Nat.le_of_ble_eq_true rfl) hRf) (Nat.le_trans (Nat.le_of_ble_eq_true rfl) hRl) rfl hl.1 (Nat.le_of_ble_eq_true rfl) rfl dX12_concludes_174 (fun v6 u H locs rv6 h hw => ?_)
  refine kcI (n := 1) (c_termOf rv6 h) G_termOf E_termOf X hw (Nat.le_trans (Nat.le_of_ble_eq_true rfl) hRf) (Nat.le_trans (Nat.le_of_ble_eq_true rfl) hRl) rfl hl.1 (Nat.le_of_ble_eq_true rfl) rfl dX12_concludes_177 (fun v7 u H locs rv7 h hw => ?_)
  refine lv_goto hx hb dX12_concludes_180 (tgt := 184) rfl ?_
  exact b_concludes_184 X hRf hRl hret rx2 rx3 rx4 rx5 rv7 hw hl h

def w_concludes_146 (Q : Int → iST → Prop) (x2 : Int) (x3 : Int) (x4 : Int) (y0 : Int) (u : iST) : Prop :=
  bd x2 452000 (rd (u.2.1 0 x2) (fun v5 => 
  br (v5 = 35) (
    w_concludes_170 Q x2 x3 x4 y0 u) (
    bd x2 452000 (rd (u.2.1 0 x2) (fun v88 => 
    br (v88 ≠ 36) (
      w_concludes_184 Q x2 x3 x4 y0 (-1) u) (
      w_concludes_170 Q x2 x3 x4 y0 u))))))
set_option maxRecDepth 20000 in
set_option maxHeartbeats 4000000 in
theorem b_concludes_146 (X : kX p m c cX12_concludes 8 s args D ca) (hRf : 8 ≤ R.frames) (hRl : 191 ≤ R.locals) {Q : Int → iST → Prop} (hret : ∀ (v : Int) (u : iST) (H : Heap) (locs : List Loc) (ls : Array Slot) (pc : Nat), bz v → Q v u → kW D ca A h0 ad H0 H locs u → decode cX12_concludes pc = .ok (.ireturn, 1) → W p l e R s m args below meth c H locs 0 0 Qf (F0 m pc ls [.int (jI v)])) {x2 x3 x4 y0 : Int} (rx2 : inR x2) (rx3 : inR x3) (rx4 : inR x4) (ry0 : inR y0) (hw : kW D ca A h0 ad H0 H locs u) (hl : lv_has ls 8 [(0, .ref h0), (2, .int (jI x2)), (3, .int (jI x3)), (4, .int (jI x4))]) (h : w_concludes_146 Q x2 x3 x4 y0 u) : W p l e R s m args below meth c H locs 0 0 Qf (F0 m 146 ls [.int (jI y0)]) := by
  have hx := X.1.1
  have hb := X.1.2.1
  unfold w_concludes_146 at h
  refine lv_istore hx hb dX12_concludes_146 hl (by decide) rfl (fun ls hl => ?_)
  have hl : lv_has ls 8 [(5, .int (jI y0)), (0, .ref (h0)), (2, .int (jI x2)), (3, .int (jI x3)), (4, .int (jI x4))] := hl
  refine lv_aload_n hx hb dX12_concludes_148 rfl (lv_at hl 1 rfl) ?_
  refine gA 0 8 (by decide) L_0 (fun _ _ => mF_0) rfl X hw dX12_concludes_149 ?_
  refine lv_iload_n hx hb dX12_concludes_152 rfl (lv_at hl 2 rfl) ?_
  refine aL 0 1 0 452000 (fun _ _ _ _ => mG_0) (fun _ => rfl) X hw rx2 dX12_concludes_153 rfl h (fun v5 rv5 h => ?_)
  refine lv_bipush hx hb dX12_concludes_154 (v := jI 35) rfl ?_
  refine k_icmp_eq hx hb rv5 (by decide) dX12_concludes_156 (tgt := 170) rfl h (fun h => ?_) (fun h => ?_)
  · exact b_concludes_170 X hRf hRl hret rx2 rx3 rx4 ry0 hw (lv_sub hl [1, 2, 3, 4, 0] rfl) h
  · refine lv_aload_n hx hb dX12_concludes_159 rfl (lv_at hl 1 rfl) ?_
    refine gA 0 8 (by decide) L_0 (fun _ _ => mF_0) rfl X hw dX12_concludes_160 ?_
    refine lv_iload_n hx hb dX12_concludes_163 rfl (lv_at hl 2 rfl) ?_
    refine aL 0 1 0 452000 (fun _ _ _ _ => mG_0) (fun _ => rfl) X hw rx2 dX12_concludes_164 rfl h (fun v88 rv88 h => ?_)
    refine lv_bipush hx hb dX12_concludes_165 (v := jI 36) rfl ?_
    refine k_icmp_ne hx hb rv88 (by decide) dX12_concludes_167 (tgt := 183) rfl h (fun h => ?_) (fun h => ?_)
    · refine lv_iconst hx hb dX12_concludes_183 (v := jI (-1)) rfl ?_
      exact b_concludes_184 X hRf hRl hret rx2 rx3 rx4 ry0 (by decide) hw (lv_sub hl [1, 2, 3, 4, 0] rfl) h
    · exact b_concludes_170 X hRf hRl hret rx2 rx3 rx4 ry0 hw (lv_sub hl [1, 2, 3, 4, 0] rfl) h

def w_concludes_145 (Q : Int → iST → Prop) (x2 : Int) (x3 : Int) (x4 : Int) (u : iST) : Prop :=
  w_concludes_146 Q x2 x3 x4 (-1) u
set_option maxRecDepth 20000 in
set_option maxHeartbeats 4000000 in
theorem b_concludes_145 (X : kX p m c cX12_concludes 8 s args D ca) (hRf : 8 ≤ R.frames) (hRl : 191 ≤ R.locals) {Q : Int → iST → Prop} (hret : ∀ (v : Int) (u : iST) (H : Heap) (locs : List Loc) (ls : Array Slot) (pc : Nat), bz v → Q v u → kW D ca A h0 ad H0 H locs u → decode cX12_concludes pc = .ok (.ireturn, 1) → W p l e R s m args below meth c H locs 0 0 Qf (F0 m pc ls [.int (jI v)])) {x2 x3 x4 : Int} (rx2 : inR x2) (rx3 : inR x3) (rx4 : inR x4) (hw : kW D ca A h0 ad H0 H locs u) (hl : lv_has ls 8 [(0, .ref h0), (2, .int (jI x2)), (3, .int (jI x3)), (4, .int (jI x4))]) (h : w_concludes_145 Q x2 x3 x4 u) : W p l e R s m args below meth c H locs 0 0 Qf (F0 m 145 ls []) := by
  have hx := X.1.1
  have hb := X.1.2.1
  unfold w_concludes_145 at h
  refine lv_iconst hx hb dX12_concludes_145 (v := jI (-1)) rfl ?_
  exact b_concludes_146 X hRf hRl hret rx2 rx3 rx4 (by decide) hw hl h

def w_concludes_108 (Q : Int → iST → Prop) (x2 : Int) (x3 : Int) (y0 : Int) (u : iST) : Prop :=
  bd x2 452000 (rd (u.2.1 0 x2) (fun v4 => 
  br (v4 < 32) (
    w_concludes_145 Q x2 x3 y0 u) (
    bd x2 452000 (rd (u.2.1 0 x2) (fun v89 => 
    br (36 < v89) (
      w_concludes_145 Q x2 x3 y0 u) (
      w_nth x2 2 (fun v90 u => 
      w_termOf v90 (fun v91 u => 
      w_concludes_146 Q x2 x3 y0 v91 u) u) u))))))
set_option maxRecDepth 20000 in
set_option maxHeartbeats 4000000 in
theorem b_concludes_108 (X : kX p m c cX12_concludes 8 s args D ca) (hRf : 8 ≤ R.frames) (hRl : 191 ≤ R.locals) {Q : Int → iST → Prop} (hret : ∀ (v : Int) (u : iST) (H : Heap) (locs : List Loc) (ls : Array Slot) (pc : Nat), bz v → Q v u → kW D ca A h0 ad H0 H locs u → decode cX12_concludes pc = .ok (.ireturn, 1) → W p l e R s m args below meth c H locs 0 0 Qf (F0 m pc ls [.int (jI v)])) {x2 x3 y0 : Int} (rx2 : inR x2) (rx3 : inR x3) (ry0 : inR y0) (hw : kW D ca A h0 ad H0 H locs u) (hl : lv_has ls 8 [(0, .ref h0), (2, .int (jI x2)), (3, .int (jI x3))]) (h : w_concludes_108 Q x2 x3 y0 u) : W p l e R s m args below meth c H locs 0 0 Qf (F0 m 108 ls [.int (jI y0)]) := by
  have hx := X.1.1
  have hb := X.1.2.1
  unfold w_concludes_108 at h
  refine lv_istore hx hb dX12_concludes_108 hl (by decide) rfl (fun ls hl => ?_)
  have hl : lv_has ls 8 [(4, .int (jI y0)), (0, .ref (h0)), (2, .int (jI x2)), (3, .int (jI x3))] := hl
  refine lv_aload_n hx hb dX12_concludes_110 rfl (lv_at hl 1 rfl) ?_
  refine gA 0 8 (by decide) L_0 (fun _ _ => mF_0) rfl X hw dX12_concludes_111 ?_
  refine lv_iload_n hx hb dX12_concludes_114 rfl (lv_at hl 2 rfl) ?_
  refine aL 0 1 0 452000 (fun _ _ _ _ => mG_0) (fun _ => rfl) X hw rx2 dX12_concludes_115 rfl h (fun v4 rv4 h => ?_)
  refine lv_bipush hx hb dX12_concludes_116 (v := jI 32) rfl ?_
  refine k_icmp_lt hx hb rv4 (by decide) dX12_concludes_118 (tgt := 145) rfl h (fun h => ?_) (fun h => ?_)
  · exact b_concludes_145 X hRf hRl hret rx2 rx3 ry0 hw (lv_sub hl [1, 2, 3, 0] rfl) h
  · refine lv_aload_n hx hb dX12_concludes_121 rfl (lv_at hl 1 rfl) ?_
    refine gA 0 8 (by decide) L_0 (fun _ _ => mF_0) rfl X hw dX12_concludes_122 ?_
    refine lv_iload_n hx hb dX12_concludes_125 rfl (lv_at hl 2 rfl) ?_
    refine aL 0 1 0 452000 (fun _ _ _ _ => mG_0) (fun _ => rfl) X hw rx2 dX12_concludes_126 rfl h (fun v89 rv89 h => ?_)
    refine lv_bipush hx hb dX12_concludes_127 (v := jI 36) rfl ?_
    refine k_icmp_gt hx hb rv89 (by decide) dX12_concludes_129 (tgt := 145) rfl h (fun h => ?_) (fun h => ?_)
    · exact b_concludes_145 X hRf hRl hret rx2 rx3 ry0 hw (lv_sub hl [1, 2, 3, 0] rfl) h
    · refine lv_aload_n hx hb dX12_concludes_132 rfl (lv_at hl 1 rfl) ?_
      refine lv_aload_n hx hb dX12_concludes_133 rfl (lv_at hl 1 rfl) ?_
      refine lv_iload_n hx hb dX12_concludes_134 rfl (lv_at hl 2 rfl) ?_
      refine lv_iconst hx hb dX12_concludes_135 (v := jI 2) rfl ?_
      refine kcI (n := 2) (c_nth rx2 (by decide) h) G_nth E_nth X hw (Nat.le_trans (Nat.le_of_ble_eq_true rfl) hRf) (Nat.le_trans (Nat.le_of_ble_eq_true rfl) hRl) rfl hl.1 (Nat.le_of_ble_eq_true rfl) rfl dX12_concludes_136 (fun v90 u H locs rv90 h hw => ?_)
      refine kcI (n := 1) (c_termOf rv90 h) G_termOf E_termOf X hw (Nat.le_trans (Nat.le_of_ble_eq_true rfl) hRf) (Nat.le_trans (Nat.le_of_ble_eq_true rfl) hRl) rfl hl.1 (Nat.le_of_ble_eq_true rfl) rfl dX12_concludes_139 (fun v91 u H locs rv91 h hw => ?_)
      refine lv_goto hx hb dX12_concludes_142 (tgt := 146) rfl ?_
      exact b_concludes_146 X hRf hRl hret rx2 rx3 ry0 rv91 hw (lv_sub hl [1, 2, 3, 0] rfl) h

def w_concludes_107 (Q : Int → iST → Prop) (x2 : Int) (x3 : Int) (u : iST) : Prop :=
  w_concludes_108 Q x2 x3 (-1) u
set_option maxRecDepth 20000 in
set_option maxHeartbeats 4000000 in
theorem b_concludes_107 (X : kX p m c cX12_concludes 8 s args D ca) (hRf : 8 ≤ R.frames) (hRl : 191 ≤ R.locals) {Q : Int → iST → Prop} (hret : ∀ (v : Int) (u : iST) (H : Heap) (locs : List Loc) (ls : Array Slot) (pc : Nat), bz v → Q v u → kW D ca A h0 ad H0 H locs u → decode cX12_concludes pc = .ok (.ireturn, 1) → W p l e R s m args below meth c H locs 0 0 Qf (F0 m pc ls [.int (jI v)])) {x2 x3 : Int} (rx2 : inR x2) (rx3 : inR x3) (hw : kW D ca A h0 ad H0 H locs u) (hl : lv_has ls 8 [(0, .ref h0), (2, .int (jI x2)), (3, .int (jI x3))]) (h : w_concludes_107 Q x2 x3 u) : W p l e R s m args below meth c H locs 0 0 Qf (F0 m 107 ls []) := by
  have hx := X.1.1
  have hb := X.1.2.1
  unfold w_concludes_107 at h
  refine lv_iconst hx hb dX12_concludes_107 (v := jI (-1)) rfl ?_
  exact b_concludes_108 X hRf hRl hret rx2 rx3 (by decide) hw hl h

def w_concludes (a0 : Int) (Q : Int → iST → Prop) (u : iST) : Prop :=
  bd a0 40 (rd (u.2.1 141 a0) (fun v1 => 
  bd a0 40 (rd (u.2.1 143 a0) (fun v2 => 
  sw (iI u 122 0) (fun u => 
  w_lengthOf v1 (fun v3 u => 
  br (v3 ≤ 1) (
    w_concludes_107 Q v1 v2 u) (
    bd v1 452000 (rd (u.2.1 0 v1) (fun v92 => 
    br (v92 = 37) (
      w_concludes_107 Q v1 v2 u) (
      bd v1 452000 (rd (u.2.1 0 v1) (fun v93 => 
      br (v93 = 38) (
        w_concludes_107 Q v1 v2 u) (
        bd v1 452000 (rd (u.2.1 0 v1) (fun v94 => 
        br (v94 = 39) (
          w_concludes_107 Q v1 v2 u) (
          bd v1 452000 (rd (u.2.1 0 v1) (fun v95 => 
          br (v95 = 41) (
            w_concludes_107 Q v1 v2 u) (
            bd v1 452000 (rd (u.2.1 0 v1) (fun v96 => 
            br (v96 = 42) (
              w_concludes_107 Q v1 v2 u) (
              bd v1 452000 (rd (u.2.1 0 v1) (fun v97 => 
              br (v97 = 43) (
                w_concludes_107 Q v1 v2 u) (
                w_nth v1 1 (fun v98 u => 
                w_termOf v98 (fun v99 u => 
                w_concludes_108 Q v1 v2 v99 u) u) u)))))))))))))))))))) u)))))
set_option maxRecDepth 20000 in
set_option maxHeartbeats 4000000 in
theorem b_concludes_s (X : kX p m c cX12_concludes 8 s args D ca) (hRf : 8 ≤ R.frames) (hRl : 191 ≤ R.locals) {Q : Int → iST → Prop} (hret : ∀ (v : Int) (u : iST) (H : Heap) (locs : List Loc) (ls : Array Slot) (pc : Nat), bz v → Q v u → kW D ca A h0 ad H0 H locs u → decode cX12_concludes pc = .ok (.ireturn, 1) → W p l e R s m args below meth c H locs 0 0 Qf (F0 m pc ls [.int (jI v)])) {a0 : Int} (ra0 : inR a0) (hw : kW D ca A h0 ad H0 H locs u) (hl : lv_has ls 8 [(0, .ref h0), (1, .int (jI a0))]) (h : w_concludes a0 Q u) : W p l e R s m args below meth c H locs 0 0 Qf (F0 m 0 ls []) := by
  have hx := X.1.1
  have hb := X.1.2.1
  unfold w_concludes at h
  refine lv_aload_n hx hb dX12_concludes_0 rfl (lv_at hl 0 rfl) ?_
  refine gA 141 290 (by decide) L_141 (fun _ _ => mF_141) rfl X hw dX12_concludes_1 ?_
  refine lv_iload_n hx hb dX12_concludes_4 rfl (lv_at hl 1 rfl) ?_
  refine aL 141 89 88 40 (fun _ _ _ _ => mG_141) (fun _ => rfl) X hw ra0 dX12_concludes_5 rfl h (fun v1 rv1 h => ?_)
  refine lv_istore_n hx hb dX12_concludes_6 rfl hl (by decide) rfl (fun ls hl => ?_)
  have hl : lv_has ls 8 [(2, .int (jI v1)), (0, .ref (h0)), (1, .int (jI a0))] := hl
  refine lv_aload_n hx hb dX12_concludes_7 rfl (lv_at hl 1 rfl) ?_
  refine gA 143 296 (by decide) L_143 (fun _ _ => mF_143) rfl X hw dX12_concludes_8 ?_
  refine lv_iload_n hx hb dX12_concludes_11 rfl (lv_at hl 2 rfl) ?_
  refine aL 143 91 90 40 (fun _ _ _ _ => mG_143) (fun _ => rfl) X hw ra0 dX12_concludes_12 rfl h (fun v2 rv2 h => ?_)
  refine lv_istore_n hx hb dX12_concludes_13 rfl hl (by decide) rfl (fun ls hl => ?_)
  have hl : lv_has ls 8 [(3, .int (jI v2)), (2, .int (jI v1)), (0, .ref (h0)), (1, .int (jI a0))] := hl
  refine lv_aload_n hx hb dX12_concludes_14 rfl (lv_at hl 2 rfl) ?_
  refine lv_iconst hx hb dX12_concludes_15 (v := jI 0) rfl ?_
  refine pS 122 727 (by decide) L_122 rfl rfl rfl (fun _ _ _ _ _ => mSI_122) (by decide) X hw (by decide) dX12_concludes_16 h (fun H locs u hw h => ?_)
  refine lv_aload_n hx hb dX12_concludes_19 rfl (lv_at hl 2 rfl) ?_
  refine lv_iload_n hx hb dX12_concludes_20 rfl (lv_at hl 1 rfl) ?_
  refine kcI (n := 1) (c_lengthOf rv1 h) G_lengthOf E_lengthOf X hw (Nat.le_trans (Nat.le_of_ble_eq_true rfl) hRf) (Nat.le_trans (Nat.le_of_ble_eq_true rfl) hRl) rfl hl.1 (Nat.le_of_ble_eq_true rfl) rfl dX12_concludes_21 (fun v3 u H locs rv3 h hw => ?_)
  refine lv_iconst hx hb dX12_concludes_24 (v := jI 1) rfl ?_
  refine k_icmp_le hx hb rv3 (by decide) dX12_concludes_25 (tgt := 107) rfl h (fun h => ?_) (fun h => ?_)
  · exact b_concludes_107 X hRf hRl hret rv1 rv2 hw (lv_sub hl [2, 1, 0] rfl) h
  · refine lv_aload_n hx hb dX12_concludes_28 rfl (lv_at hl 2 rfl) ?_
    refine gA 0 8 (by decide) L_0 (fun _ _ => mF_0) rfl X hw dX12_concludes_29 ?_
    refine lv_iload_n hx hb dX12_concludes_32 rfl (lv_at hl 1 rfl) ?_
    refine aL 0 1 0 452000 (fun _ _ _ _ => mG_0) (fun _ => rfl) X hw rv1 dX12_concludes_33 rfl h (fun v92 rv92 h => ?_)
    refine lv_bipush hx hb dX12_concludes_34 (v := jI 37) rfl ?_
    refine k_icmp_eq hx hb rv92 (by decide) dX12_concludes_36 (tgt := 107) rfl h (fun h => ?_) (fun h => ?_)
    · exact b_concludes_107 X hRf hRl hret rv1 rv2 hw (lv_sub hl [2, 1, 0] rfl) h
    · refine lv_aload_n hx hb dX12_concludes_39 rfl (lv_at hl 2 rfl) ?_
      refine gA 0 8 (by decide) L_0 (fun _ _ => mF_0) rfl X hw dX12_concludes_40 ?_
      refine lv_iload_n hx hb dX12_concludes_43 rfl (lv_at hl 1 rfl) ?_
      refine aL 0 1 0 452000 (fun _ _ _ _ => mG_0) (fun _ => rfl) X hw rv1 dX12_concludes_44 rfl h (fun v93 rv93 h => ?_)
      refine lv_bipush hx hb dX12_concludes_45 (v := jI 38) rfl ?_
      refine k_icmp_eq hx hb rv93 (by decide) dX12_concludes_47 (tgt := 107) rfl h (fun h => ?_) (fun h => ?_)
      · exact b_concludes_107 X hRf hRl hret rv1 rv2 hw (lv_sub hl [2, 1, 0] rfl) h
      · refine lv_aload_n hx hb dX12_concludes_50 rfl (lv_at hl 2 rfl) ?_
        refine gA 0 8 (by decide) L_0 (fun _ _ => mF_0) rfl X hw dX12_concludes_51 ?_
        refine lv_iload_n hx hb dX12_concludes_54 rfl (lv_at hl 1 rfl) ?_
        refine aL 0 1 0 452000 (fun _ _ _ _ => mG_0) (fun _ => rfl) X hw rv1 dX12_concludes_55 rfl h (fun v94 rv94 h => ?_)
        refine lv_bipush hx hb dX12_concludes_56 (v := jI 39) rfl ?_
        refine k_icmp_eq hx hb rv94 (by decide) dX12_concludes_58 (tgt := 107) rfl h (fun h => ?_) (fun h => ?_)
        · exact b_concludes_107 X hRf hRl hret rv1 rv2 hw (lv_sub hl [2, 1, 0] rfl) h
        · refine lv_aload_n hx hb dX12_concludes_61 rfl (lv_at hl 2 rfl) ?_
          refine gA 0 8 (by decide) L_0 (fun _ _ => mF_0) rfl X hw dX12_concludes_62 ?_
          refine lv_iload_n hx hb dX12_concludes_65 rfl (lv_at hl 1 rfl) ?_
          refine aL 0 1 0 452000 (fun _ _ _ _ => mG_0) (fun _ => rfl) X hw rv1 dX12_concludes_66 rfl h (fun v95 rv95 h => ?_)
          refine lv_bipush hx hb dX12_concludes_67 (v := jI 41) rfl ?_
          refine k_icmp_eq hx hb rv95 (by decide) dX12_concludes_69 (tgt := 107) rfl h (fun h => ?_) (fun h => ?_)
          · exact b_concludes_107 X hRf hRl hret rv1 rv2 hw (lv_sub hl [2, 1, 0] rfl) h
          · refine lv_aload_n hx hb dX12_concludes_72 rfl (lv_at hl 2 rfl) ?_
            refine gA 0 8 (by decide) L_0 (fun _ _ => mF_0) rfl X hw dX12_concludes_73 ?_
            refine lv_iload_n hx hb dX12_concludes_76 rfl (lv_at hl 1 rfl) ?_
            refine aL 0 1 0 452000 (fun _ _ _ _ => mG_0) (fun _ => rfl) X hw rv1 dX12_concludes_77 rfl h (fun v96 rv96 h => ?_)
            refine lv_bipush hx hb dX12_concludes_78 (v := jI 42) rfl ?_
            refine k_icmp_eq hx hb rv96 (by decide) dX12_concludes_80 (tgt := 107) rfl h (fun h => ?_) (fun h => ?_)
            · exact b_concludes_107 X hRf hRl hret rv1 rv2 hw (lv_sub hl [2, 1, 0] rfl) h
            · refine lv_aload_n hx hb dX12_concludes_83 rfl (lv_at hl 2 rfl) ?_
              refine gA 0 8 (by decide) L_0 (fun _ _ => mF_0) rfl X hw dX12_concludes_84 ?_
              refine lv_iload_n hx hb dX12_concludes_87 rfl (lv_at hl 1 rfl) ?_
              refine aL 0 1 0 452000 (fun _ _ _ _ => mG_0) (fun _ => rfl) X hw rv1 dX12_concludes_88 rfl h (fun v97 rv97 h => ?_)
              refine lv_bipush hx hb dX12_concludes_89 (v := jI 43) rfl ?_
              refine k_icmp_eq hx hb rv97 (by decide) dX12_concludes_91 (tgt := 107) rfl h (fun h => ?_) (fun h => ?_)
              · exact b_concludes_107 X hRf hRl hret rv1 rv2 hw (lv_sub hl [2, 1, 0] rfl) h
              · refine lv_aload_n hx hb dX12_concludes_94 rfl (lv_at hl 2 rfl) ?_
                refine lv_aload_n hx hb dX12_concludes_95 rfl (lv_at hl 2 rfl) ?_
                refine lv_iload_n hx hb dX12_concludes_96 rfl (lv_at hl 1 rfl) ?_
                refine lv_iconst hx hb dX12_concludes_97 (v := jI 1) rfl ?_
                refine kcI (n := 2) (c_nth rv1 (by decide) h) G_nth E_nth X hw (Nat.le_trans (Nat.le_of_ble_eq_true rfl) hRf) (Nat.le_trans (Nat.le_of_ble_eq_true rfl) hRl) rfl hl.1 (Nat.le_of_ble_eq_true rfl) rfl dX12_concludes_98 (fun v98 u H locs rv98 h hw => ?_)
                refine kcI (n := 1) (c_termOf rv98 h) G_termOf E_termOf X hw (Nat.le_trans (Nat.le_of_ble_eq_true rfl) hRf) (Nat.le_trans (Nat.le_of_ble_eq_true rfl) hRl) rfl hl.1 (Nat.le_of_ble_eq_true rfl) rfl dX12_concludes_101 (fun v99 u H locs rv99 h hw => ?_)
                refine lv_goto hx hb dX12_concludes_104 (tgt := 108) rfl ?_
                exact b_concludes_108 X hRf hRl hret rv1 rv2 rv99 hw (lv_sub hl [2, 1, 0] rfl) h

end
theorem c_concludes {l : Launch} {a0 : Int} (ra0 : inR a0) {Q : Int → iST → Prop} {u : iST} (h : w_concludes a0 Q u) : kMI l yX12_concludes (.code yX12_concludes cX12_concludes 8 (some .boolean) :: wsM) { frames := 8, cells := 0, slots := 0, locals := 191 } [.int (jI a0)] Q u := kMZ_of rfl (fun _ => Nat.le_of_ble_eq_true rfl) (fun X hRf hRl hret hw hl => b_concludes_s X hRf hRl hret ra0 hw hl h)
