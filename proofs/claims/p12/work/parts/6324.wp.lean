/-! ProofHouse$Reader.refuse -/
theorem dX5_refuse_0 : decode cX5_refuse 0 = .ok (.aload_n 0, 1) := by decide +kernel
theorem dX5_refuse_1 : decode cX5_refuse 1 = .ok (.iload_n 1, 1) := by decide +kernel
theorem dX5_refuse_2 : decode cX5_refuse 2 = .ok (.putfield 37, 3) := by decide +kernel
theorem dX5_refuse_5 : decode cX5_refuse 5 = .ok (.aload_n 0, 1) := by decide +kernel
theorem dX5_refuse_6 : decode cX5_refuse 6 = .ok (.iload_n 2, 1) := by decide +kernel
theorem dX5_refuse_7 : decode cX5_refuse 7 = .ok (.putfield 40, 3) := by decide +kernel
theorem dX5_refuse_10 : decode cX5_refuse 10 = .ok (.return_, 1) := by decide +kernel

section
variable {p : Program} {l : Launch} {e : Env} {R : Room} {s : State} {m : MethodId} {args : Array Value} {below : List Frame} {meth : Method} {c : Code} {H : Heap} {locs : List Loc} {Qf : State → Prop}
variable {ls : Array Slot} {D : va_G} {ca : Nat → ClassId} {A : Nat → Prop} {ad : Nat → Nat → Nat} {u : iST}
def v_5_refuse (a0 : Int) (a1 : Int) (Q : iST → Prop) (u : iST) : Prop :=
  sw (iI u 21 a0) (fun u => 
  sw (iI u 22 a1) (fun u => 
  Q u))
set_option maxRecDepth 20000 in
set_option maxHeartbeats 4000000 in
theorem f_5_refuse_s (X : yX RX5 p m c cX5_refuse 3 s args D ca ad A) (hRf : 0 ≤ R.frames) (hRl : 0 ≤ R.locals) {Q : iST → Prop} (hret : ∀ (u : iST) (H : Heap) (locs : List Loc) (ls : Array Slot) (pc : Nat), Q u → yW D ca A ad s H locs u → decode cX5_refuse pc = .ok (.return_, 1) → W p l e R s m args below meth c H locs 0 0 Qf (F0 m pc ls [])) {a0 a1 : Int} (ra0 : inR a0) (ra1 : inR a1) (hw : yW D ca A ad s H locs u) (hl : lv_has ls 3 [(0, .ref (ad 0 4)), (1, .int (jI a0)), (2, .int (jI a1))]) (h : v_5_refuse a0 a1 Q u) : W p l e R s m args below meth c H locs 0 0 Qf (F0 m 0 ls []) := by
  have hx := X.1.1
  have hb := X.1.2.1
  unfold v_5_refuse at h
  refine lv_aload_n hx hb dX5_refuse_0 rfl (lv_at hl 0 rfl) ?_
  refine lv_iload_n hx hb dX5_refuse_1 rfl (lv_at hl 1 rfl) ?_
  refine yp_5_37 X hw ra0 dX5_refuse_2 h (fun H locs u hw h => ?_)
  refine lv_aload_n hx hb dX5_refuse_5 rfl (lv_at hl 0 rfl) ?_
  refine lv_iload_n hx hb dX5_refuse_6 rfl (lv_at hl 2 rfl) ?_
  refine yp_5_40 X hw ra1 dX5_refuse_7 h (fun H locs u hw h => ?_)
  exact hret _ _ _ _ _ h hw dX5_refuse_10

end
theorem e_5_refuse {l : Launch} {a0 : Int} {a1 : Int} (ra0 : inR a0) (ra1 : inR a1) {Q : iST → Prop} {u : iST} (h : v_5_refuse a0 a1 Q u) : yMV l yX5_refuse (.code yX5_refuse cX5_refuse 3 none :: wsN) { frames := 0, cells := 0, slots := 0, locals := 0 } (fun ad => [.ref (ad 0 4), .int (jI a0), .int (jI a1)]) Q u := yMV_of (own := RX5) rfl (by decide +kernel) (fun _ => Nat.le_of_ble_eq_true rfl) (fun X hRf hRl hret hw hl => f_5_refuse_s X hRf hRl hret ra0 ra1 hw hl h)

/-! ProofHouse$Reader.canStand -/
theorem dX5_canStand_0 : decode cX5_canStand 0 = .ok (.aload_n 0, 1) := by decide +kernel
theorem dX5_canStand_1 : decode cX5_canStand 1 = .ok (.getfield 11, 3) := by decide +kernel
theorem dX5_canStand_4 : decode cX5_canStand 4 = .ok (.aload_n 0, 1) := by decide +kernel
theorem dX5_canStand_5 : decode cX5_canStand 5 = .ok (.getfield 24, 3) := by decide +kernel
theorem dX5_canStand_8 : decode cX5_canStand 8 = .ok (.iaload, 1) := by decide +kernel
theorem dX5_canStand_9 : decode cX5_canStand 9 = .ok (.tableswitch 67 1 6 #[39, 51, 67, 53, 67, 65], 39) := by decide +kernel
theorem dX5_canStand_48 : decode cX5_canStand 48 = .ok (.iload_n 1, 1) := by decide +kernel
theorem dX5_canStand_49 : decode cX5_canStand 49 = .ok (.bipush 46, 2) := by decide +kernel
theorem dX5_canStand_51 : decode cX5_canStand 51 = .ok (.if_icmp .eq 7, 3) := by decide +kernel
theorem dX5_canStand_54 : decode cX5_canStand 54 = .ok (.iconst 1, 1) := by decide +kernel
theorem dX5_canStand_55 : decode cX5_canStand 55 = .ok (.goto 4, 3) := by decide +kernel
theorem dX5_canStand_58 : decode cX5_canStand 58 = .ok (.iconst 0, 1) := by decide +kernel
theorem dX5_canStand_59 : decode cX5_canStand 59 = .ok (.ireturn, 1) := by decide +kernel
theorem dX5_canStand_60 : decode cX5_canStand 60 = .ok (.iconst 1, 1) := by decide +kernel
theorem dX5_canStand_61 : decode cX5_canStand 61 = .ok (.ireturn, 1) := by decide +kernel
theorem dX5_canStand_62 : decode cX5_canStand 62 = .ok (.iload_n 1, 1) := by decide +kernel
theorem dX5_canStand_63 : decode cX5_canStand 63 = .ok (.bipush 41, 2) := by decide +kernel
theorem dX5_canStand_65 : decode cX5_canStand 65 = .ok (.if_icmp .ne 7, 3) := by decide +kernel
theorem dX5_canStand_68 : decode cX5_canStand 68 = .ok (.iconst 1, 1) := by decide +kernel
theorem dX5_canStand_69 : decode cX5_canStand 69 = .ok (.goto 4, 3) := by decide +kernel
theorem dX5_canStand_72 : decode cX5_canStand 72 = .ok (.iconst 0, 1) := by decide +kernel
theorem dX5_canStand_73 : decode cX5_canStand 73 = .ok (.ireturn, 1) := by decide +kernel
theorem dX5_canStand_74 : decode cX5_canStand 74 = .ok (.iconst 0, 1) := by decide +kernel
theorem dX5_canStand_75 : decode cX5_canStand 75 = .ok (.ireturn, 1) := by decide +kernel
theorem dX5_canStand_76 : decode cX5_canStand 76 = .ok (.iload_n 1, 1) := by decide +kernel
theorem dX5_canStand_77 : decode cX5_canStand 77 = .ok (.bipush 46, 2) := by decide +kernel
theorem dX5_canStand_79 : decode cX5_canStand 79 = .ok (.if_icmp .eq 13, 3) := by decide +kernel
theorem dX5_canStand_82 : decode cX5_canStand 82 = .ok (.iload_n 1, 1) := by decide +kernel
theorem dX5_canStand_83 : decode cX5_canStand 83 = .ok (.bipush 41, 2) := by decide +kernel
theorem dX5_canStand_85 : decode cX5_canStand 85 = .ok (.if_icmp .eq 7, 3) := by decide +kernel
theorem dX5_canStand_88 : decode cX5_canStand 88 = .ok (.iconst 1, 1) := by decide +kernel
theorem dX5_canStand_89 : decode cX5_canStand 89 = .ok (.goto 4, 3) := by decide +kernel
theorem dX5_canStand_92 : decode cX5_canStand 92 = .ok (.iconst 0, 1) := by decide +kernel
theorem dX5_canStand_93 : decode cX5_canStand 93 = .ok (.ireturn, 1) := by decide +kernel

section
variable {p : Program} {l : Launch} {e : Env} {R : Room} {s : State} {m : MethodId} {args : Array Value} {below : List Frame} {meth : Method} {c : Code} {H : Heap} {locs : List Loc} {Qf : State → Prop}
variable {ls : Array Slot} {D : va_G} {ca : Nat → ClassId} {A : Nat → Prop} {ad : Nat → Nat → Nat} {u : iST}
def v_5_canStand (a0 : Int) (Q : Int → iST → Prop) (u : iST) : Prop :=
  rd (u.1 17) (fun v1 => 
  bd v1 41 (rd (u.2.1 23 v1) (fun v2 => 
  br (v2 = 1) (
    br (a0 = 46) (
      zt 0 (Q 0 u)) (
      zt 1 (Q 1 u))) (
  br (v2 = 2) (
    zt 1 (Q 1 u)) (
  br (v2 = 3) (
    br (a0 = 46) (
      zt 0 (Q 0 u)) (
      br (a0 = 41) (
        zt 0 (Q 0 u)) (
        zt 1 (Q 1 u)))) (
  br (v2 = 4) (
    br (a0 ≠ 41) (
      zt 0 (Q 0 u)) (
      zt 1 (Q 1 u))) (
  br (v2 = 5) (
    br (a0 = 46) (
      zt 0 (Q 0 u)) (
      br (a0 = 41) (
        zt 0 (Q 0 u)) (
        zt 1 (Q 1 u)))) (
  br (v2 = 6) (
    zt 0 (Q 0 u)) (
  br (a0 = 46) (
    zt 0 (Q 0 u)) (
    br (a0 = 41) (
      zt 0 (Q 0 u)) (
      zt 1 (Q 1 u))))))))))))
set_option maxRecDepth 20000 in
set_option maxHeartbeats 4000000 in
theorem f_5_canStand_s (X : yX RX5 p m c cX5_canStand 2 s args D ca ad A) (hRf : 0 ≤ R.frames) (hRl : 0 ≤ R.locals) {Q : Int → iST → Prop} (hret : ∀ (v : Int) (u : iST) (H : Heap) (locs : List Loc) (ls : Array Slot) (pc : Nat), bz v → Q v u → yW D ca A ad s H locs u → decode cX5_canStand pc = .ok (.ireturn, 1) → W p l e R s m args below meth c H locs 0 0 Qf (F0 m pc ls [.int (jI v)])) {a0 : Int} (ra0 : inR a0) (hw : yW D ca A ad s H locs u) (hl : lv_has ls 2 [(0, .ref (ad 0 4)), (1, .int (jI a0))]) (h : v_5_canStand a0 Q u) : W p l e R s m args below meth c H locs 0 0 Qf (F0 m 0 ls []) := by
  have hx := X.1.1
  have hb := X.1.2.1
  unfold v_5_canStand at h
  refine lv_aload_n hx hb dX5_canStand_0 rfl (lv_at hl 0 rfl) ?_
  refine yg_5_11 X hw dX5_canStand_1 ?_
  refine lv_aload_n hx hb dX5_canStand_4 rfl (lv_at hl 0 rfl) ?_
  refine yg_5_24 X hw dX5_canStand_5 h (fun v1 rv1 h => ?_)
  refine yl_23 X hw rv1 dX5_canStand_8 h (fun v2 rv2 h => ?_)
  refine br_sp h (fun ek h => ?_) (fun n3 h => ?_)
  · refine k_tabIn (tgt := 48) (off := 39) hx hb dX5_canStand_9 ek (by decide) (by decide) rfl rfl ?_
    refine lv_iload_n hx hb dX5_canStand_48 rfl (lv_at hl 1 rfl) ?_
    refine lv_bipush hx hb dX5_canStand_49 (v := jI 46) rfl ?_
    refine k_icmp_eq hx hb ra0 (by decide) dX5_canStand_51 (tgt := 58) rfl h (fun h => ?_) (fun h => ?_)
    · refine lv_iconst hx hb dX5_canStand_58 (v := jI 0) rfl ?_
      exact hret _ _ _ _ _ _ h.1 h.2 hw dX5_canStand_59
    · refine lv_iconst hx hb dX5_canStand_54 (v := jI 1) rfl ?_
      refine lv_goto hx hb dX5_canStand_55 (tgt := 59) rfl ?_
      exact hret _ _ _ _ _ _ h.1 h.2 hw dX5_canStand_59
  refine br_sp h (fun ek h => ?_) (fun n4 h => ?_)
  · refine k_tabIn (tgt := 60) (off := 51) hx hb dX5_canStand_9 ek (by decide) (by decide) rfl rfl ?_
    refine lv_iconst hx hb dX5_canStand_60 (v := jI 1) rfl ?_
    exact hret _ _ _ _ _ _ h.1 h.2 hw dX5_canStand_61
  refine br_sp h (fun ek h => ?_) (fun n5 h => ?_)
  · refine k_tabIn (tgt := 76) (off := 67) hx hb dX5_canStand_9 ek (by decide) (by decide) rfl rfl ?_
    refine lv_iload_n hx hb dX5_canStand_76 rfl (lv_at hl 1 rfl) ?_
    refine lv_bipush hx hb dX5_canStand_77 (v := jI 46) rfl ?_
    refine k_icmp_eq hx hb ra0 (by decide) dX5_canStand_79 (tgt := 92) rfl h (fun h => ?_) (fun h => ?_)
    · refine lv_iconst hx hb dX5_canStand_92 (v := jI 0) rfl ?_
      exact hret _ _ _ _ _ _ h.1 h.2 hw dX5_canStand_93
    · refine lv_iload_n hx hb dX5_canStand_82 rfl (lv_at hl 1 rfl) ?_
      refine lv_bipush hx hb dX5_canStand_83 (v := jI 41) rfl ?_
      refine k_icmp_eq hx hb ra0 (by decide) dX5_canStand_85 (tgt := 92) rfl h (fun h => ?_) (fun h => ?_)
      · refine lv_iconst hx hb dX5_canStand_92 (v := jI 0) rfl ?_
        exact hret _ _ _ _ _ _ h.1 h.2 hw dX5_canStand_93
      · refine lv_iconst hx hb dX5_canStand_88 (v := jI 1) rfl ?_
        refine lv_goto hx hb dX5_canStand_89 (tgt := 93) rfl ?_
        exact hret _ _ _ _ _ _ h.1 h.2 hw dX5_canStand_93
  refine br_sp h (fun ek h => ?_) (fun n6 h => ?_)
  · refine k_tabIn (tgt := 62) (off := 53) hx hb dX5_canStand_9 ek (by decide) (by decide) rfl rfl ?_
    refine lv_iload_n hx hb dX5_canStand_62 rfl (lv_at hl 1 rfl) ?_
    refine lv_bipush hx hb dX5_canStand_63 (v := jI 41) rfl ?_
    refine k_icmp_ne hx hb ra0 (by decide) dX5_canStand_65 (tgt := 72) rfl h (fun h => ?_) (fun h => ?_)
    · refine lv_iconst hx hb dX5_canStand_72 (v := jI 0) rfl ?_
      exact hret _ _ _ _ _ _ h.1 h.2 hw dX5_canStand_73
    · refine lv_iconst hx hb dX5_canStand_68 (v := jI 1) rfl ?_
      refine lv_goto hx hb dX5_canStand_69 (tgt := 73) rfl ?_
      exact hret _ _ _ _ _ _ h.1 h.2 hw dX5_canStand_73
  refine br_sp h (fun ek h => ?_) (fun n7 h => ?_)
  · refine k_tabIn (tgt := 76) (off := 67) hx hb dX5_canStand_9 ek (by decide) (by decide) rfl rfl ?_
    refine lv_iload_n hx hb dX5_canStand_76 rfl (lv_at hl 1 rfl) ?_
    refine lv_bipush hx hb dX5_canStand_77 (v := jI 46) rfl ?_
    refine k_icmp_eq hx hb ra0 (by decide) dX5_canStand_79 (tgt := 92) rfl h (fun h => ?_) (fun h => ?_)
    · refine lv_iconst hx hb dX5_canStand_92 (v := jI 0) rfl ?_
      exact hret _ _ _ _ _ _ h.1 h.2 hw dX5_canStand_93
    · refine lv_iload_n hx hb dX5_canStand_82 rfl (lv_at hl 1 rfl) ?_
      refine lv_bipush hx hb dX5_canStand_83 (v := jI 41) rfl ?_
      refine k_icmp_eq hx hb ra0 (by decide) dX5_canStand_85 (tgt := 92) rfl h (fun h => ?_) (fun h => ?_)
      · refine lv_iconst hx hb dX5_canStand_92 (v := jI 0) rfl ?_
        exact hret _ _ _ _ _ _ h.1 h.2 hw dX5_canStand_93
      · refine lv_iconst hx hb dX5_canStand_88 (v := jI 1) rfl ?_
        refine lv_goto hx hb dX5_canStand_89 (tgt := 93) rfl ?_
        exact hret _ _ _ _ _ _ h.1 h.2 hw dX5_canStand_93
  refine br_sp h (fun ek h => ?_) (fun n8 h => ?_)
  · refine k_tabIn (tgt := 74) (off := 65) hx hb dX5_canStand_9 ek (by decide) (by decide) rfl rfl ?_
    refine lv_iconst hx hb dX5_canStand_74 (v := jI 0) rfl ?_
    exact hret _ _ _ _ _ _ h.1 h.2 hw dX5_canStand_75
  refine k_tabOut (tgt := 76) hx hb rv2 dX5_canStand_9 (by omega) rfl ?_
  refine lv_iload_n hx hb dX5_canStand_76 rfl (lv_at hl 1 rfl) ?_
  refine lv_bipush hx hb dX5_canStand_77 (v := jI 46) rfl ?_
  refine k_icmp_eq hx hb ra0 (by decide) dX5_canStand_79 (tgt := 92) rfl h (fun h => ?_) (fun h => ?_)
  · refine lv_iconst hx hb dX5_canStand_92 (v := jI 0) rfl ?_
    exact hret _ _ _ _ _ _ h.1 h.2 hw dX5_canStand_93
  · refine lv_iload_n hx hb dX5_canStand_82 rfl (lv_at hl 1 rfl) ?_
    refine lv_bipush hx hb dX5_canStand_83 (v := jI 41) rfl ?_
    refine k_icmp_eq hx hb ra0 (by decide) dX5_canStand_85 (tgt := 92) rfl h (fun h => ?_) (fun h => ?_)
    · refine lv_iconst hx hb dX5_canStand_92 (v := jI 0) rfl ?_
      exact hret _ _ _ _ _ _ h.1 h.2 hw dX5_canStand_93
    · refine lv_iconst hx hb dX5_canStand_88 (v := jI 1) rfl ?_
      refine lv_goto hx hb dX5_canStand_89 (tgt := 93) rfl ?_
      exact hret _ _ _ _ _ _ h.1 h.2 hw dX5_canStand_93

end
theorem e_5_canStand {l : Launch} {a0 : Int} (ra0 : inR a0) {Q : Int → iST → Prop} {u : iST} (h : v_5_canStand a0 Q u) : yMI l yX5_canStand (.code yX5_canStand cX5_canStand 2 (some .boolean) :: wsN) { frames := 0, cells := 0, slots := 0, locals := 0 } (fun ad => [.ref (ad 0 4), .int (jI a0)]) Q u := yMZ_of (own := RX5) rfl (by decide +kernel) (fun _ => Nat.le_of_ble_eq_true rfl) (fun X hRf hRl hret hw hl => f_5_canStand_s X hRf hRl hret ra0 hw hl h)

/-! ProofHouse$Reader.deliver -/
theorem dX5_deliver_0 : decode cX5_deliver 0 = .ok (.iload_n 1, 1) := by decide +kernel
theorem dX5_deliver_1 : decode cX5_deliver 1 = .ok (.istore_n 2, 1) := by decide +kernel
theorem dX5_deliver_2 : decode cX5_deliver 2 = .ok (.aload_n 0, 1) := by decide +kernel
theorem dX5_deliver_3 : decode cX5_deliver 3 = .ok (.getfield 24, 3) := by decide +kernel
theorem dX5_deliver_6 : decode cX5_deliver 6 = .ok (.ifCond .le 53, 3) := by decide +kernel
theorem dX5_deliver_9 : decode cX5_deliver 9 = .ok (.aload_n 0, 1) := by decide +kernel
theorem dX5_deliver_10 : decode cX5_deliver 10 = .ok (.getfield 11, 3) := by decide +kernel
theorem dX5_deliver_13 : decode cX5_deliver 13 = .ok (.aload_n 0, 1) := by decide +kernel
theorem dX5_deliver_14 : decode cX5_deliver 14 = .ok (.getfield 24, 3) := by decide +kernel
theorem dX5_deliver_17 : decode cX5_deliver 17 = .ok (.iaload, 1) := by decide +kernel
theorem dX5_deliver_18 : decode cX5_deliver 18 = .ok (.iconst 5, 1) := by decide +kernel
theorem dX5_deliver_19 : decode cX5_deliver 19 = .ok (.if_icmp .ne 40, 3) := by decide +kernel
theorem dX5_deliver_22 : decode cX5_deliver 22 = .ok (.aload_n 0, 1) := by decide +kernel
theorem dX5_deliver_23 : decode cX5_deliver 23 = .ok (.getfield 43, 3) := by decide +kernel
theorem dX5_deliver_26 : decode cX5_deliver 26 = .ok (.iconst 2, 1) := by decide +kernel
theorem dX5_deliver_27 : decode cX5_deliver 27 = .ok (.aload_n 0, 1) := by decide +kernel
theorem dX5_deliver_28 : decode cX5_deliver 28 = .ok (.getfield 43, 3) := by decide +kernel
theorem dX5_deliver_31 : decode cX5_deliver 31 = .ok (.iload_n 2, 1) := by decide +kernel
theorem dX5_deliver_32 : decode cX5_deliver 32 = .ok (.iconst 0, 1) := by decide +kernel
theorem dX5_deliver_33 : decode cX5_deliver 33 = .ok (.invokestatic 107, 3) := by decide +kernel
theorem dX5_deliver_36 : decode cX5_deliver 36 = .ok (.invokevirtual 85, 3) := by decide +kernel
theorem dX5_deliver_39 : decode cX5_deliver 39 = .ok (.invokestatic 107, 3) := by decide +kernel
theorem dX5_deliver_42 : decode cX5_deliver 42 = .ok (.invokevirtual 85, 3) := by decide +kernel
theorem dX5_deliver_45 : decode cX5_deliver 45 = .ok (.istore_n 2, 1) := by decide +kernel
theorem dX5_deliver_46 : decode cX5_deliver 46 = .ok (.aload_n 0, 1) := by decide +kernel
theorem dX5_deliver_47 : decode cX5_deliver 47 = .ok (.dup, 1) := by decide +kernel
theorem dX5_deliver_48 : decode cX5_deliver 48 = .ok (.getfield 24, 3) := by decide +kernel
theorem dX5_deliver_51 : decode cX5_deliver 51 = .ok (.iconst 1, 1) := by decide +kernel
theorem dX5_deliver_52 : decode cX5_deliver 52 = .ok (.isub, 1) := by decide +kernel
theorem dX5_deliver_53 : decode cX5_deliver 53 = .ok (.putfield 24, 3) := by decide +kernel
theorem dX5_deliver_56 : decode cX5_deliver 56 = .ok (.goto (-54), 3) := by decide +kernel
theorem dX5_deliver_59 : decode cX5_deliver 59 = .ok (.aload_n 0, 1) := by decide +kernel
theorem dX5_deliver_60 : decode cX5_deliver 60 = .ok (.getfield 11, 3) := by decide +kernel
theorem dX5_deliver_63 : decode cX5_deliver 63 = .ok (.aload_n 0, 1) := by decide +kernel
theorem dX5_deliver_64 : decode cX5_deliver 64 = .ok (.getfield 24, 3) := by decide +kernel
theorem dX5_deliver_67 : decode cX5_deliver 67 = .ok (.iaload, 1) := by decide +kernel
theorem dX5_deliver_68 : decode cX5_deliver 68 = .ok (.ifCond .ne 22, 3) := by decide +kernel
theorem dX5_deliver_71 : decode cX5_deliver 71 = .ok (.aload_n 0, 1) := by decide +kernel
theorem dX5_deliver_72 : decode cX5_deliver 72 = .ok (.iload_n 2, 1) := by decide +kernel
theorem dX5_deliver_73 : decode cX5_deliver 73 = .ok (.putfield 34, 3) := by decide +kernel
theorem dX5_deliver_76 : decode cX5_deliver 76 = .ok (.aload_n 0, 1) := by decide +kernel
theorem dX5_deliver_77 : decode cX5_deliver 77 = .ok (.getfield 11, 3) := by decide +kernel
theorem dX5_deliver_80 : decode cX5_deliver 80 = .ok (.aload_n 0, 1) := by decide +kernel
theorem dX5_deliver_81 : decode cX5_deliver 81 = .ok (.getfield 24, 3) := by decide +kernel
theorem dX5_deliver_84 : decode cX5_deliver 84 = .ok (.bipush 6, 2) := by decide +kernel
theorem dX5_deliver_86 : decode cX5_deliver 86 = .ok (.iastore, 1) := by decide +kernel
theorem dX5_deliver_87 : decode cX5_deliver 87 = .ok (.goto 79, 3) := by decide +kernel
theorem dX5_deliver_90 : decode cX5_deliver 90 = .ok (.aload_n 0, 1) := by decide +kernel
theorem dX5_deliver_91 : decode cX5_deliver 91 = .ok (.getfield 11, 3) := by decide +kernel
theorem dX5_deliver_94 : decode cX5_deliver 94 = .ok (.aload_n 0, 1) := by decide +kernel
theorem dX5_deliver_95 : decode cX5_deliver 95 = .ok (.getfield 24, 3) := by decide +kernel
theorem dX5_deliver_98 : decode cX5_deliver 98 = .ok (.iaload, 1) := by decide +kernel
theorem dX5_deliver_99 : decode cX5_deliver 99 = .ok (.iconst 3, 1) := by decide +kernel
theorem dX5_deliver_100 : decode cX5_deliver 100 = .ok (.if_icmp .ne 26, 3) := by decide +kernel
theorem dX5_deliver_103 : decode cX5_deliver 103 = .ok (.aload_n 0, 1) := by decide +kernel
theorem dX5_deliver_104 : decode cX5_deliver 104 = .ok (.getfield 18, 3) := by decide +kernel
theorem dX5_deliver_107 : decode cX5_deliver 107 = .ok (.aload_n 0, 1) := by decide +kernel
theorem dX5_deliver_108 : decode cX5_deliver 108 = .ok (.getfield 24, 3) := by decide +kernel
theorem dX5_deliver_111 : decode cX5_deliver 111 = .ok (.iload_n 2, 1) := by decide +kernel
theorem dX5_deliver_112 : decode cX5_deliver 112 = .ok (.iastore, 1) := by decide +kernel
theorem dX5_deliver_113 : decode cX5_deliver 113 = .ok (.aload_n 0, 1) := by decide +kernel
theorem dX5_deliver_114 : decode cX5_deliver 114 = .ok (.getfield 11, 3) := by decide +kernel
theorem dX5_deliver_117 : decode cX5_deliver 117 = .ok (.aload_n 0, 1) := by decide +kernel
theorem dX5_deliver_118 : decode cX5_deliver 118 = .ok (.getfield 24, 3) := by decide +kernel
theorem dX5_deliver_121 : decode cX5_deliver 121 = .ok (.iconst 4, 1) := by decide +kernel
theorem dX5_deliver_122 : decode cX5_deliver 122 = .ok (.iastore, 1) := by decide +kernel
theorem dX5_deliver_123 : decode cX5_deliver 123 = .ok (.goto 43, 3) := by decide +kernel
theorem dX5_deliver_126 : decode cX5_deliver 126 = .ok (.aload_n 0, 1) := by decide +kernel
theorem dX5_deliver_127 : decode cX5_deliver 127 = .ok (.getfield 28, 3) := by decide +kernel
theorem dX5_deliver_130 : decode cX5_deliver 130 = .ok (.sipush 1000, 3) := by decide +kernel
theorem dX5_deliver_133 : decode cX5_deliver 133 = .ok (.if_icmp .ge 33, 3) := by decide +kernel
theorem dX5_deliver_136 : decode cX5_deliver 136 = .ok (.aload_n 0, 1) := by decide +kernel
theorem dX5_deliver_137 : decode cX5_deliver 137 = .ok (.getfield 21, 3) := by decide +kernel
theorem dX5_deliver_140 : decode cX5_deliver 140 = .ok (.aload_n 0, 1) := by decide +kernel
theorem dX5_deliver_141 : decode cX5_deliver 141 = .ok (.getfield 28, 3) := by decide +kernel
theorem dX5_deliver_144 : decode cX5_deliver 144 = .ok (.iload_n 2, 1) := by decide +kernel
theorem dX5_deliver_145 : decode cX5_deliver 145 = .ok (.iastore, 1) := by decide +kernel
theorem dX5_deliver_146 : decode cX5_deliver 146 = .ok (.aload_n 0, 1) := by decide +kernel
theorem dX5_deliver_147 : decode cX5_deliver 147 = .ok (.dup, 1) := by decide +kernel
theorem dX5_deliver_148 : decode cX5_deliver 148 = .ok (.getfield 28, 3) := by decide +kernel
theorem dX5_deliver_151 : decode cX5_deliver 151 = .ok (.iconst 1, 1) := by decide +kernel
theorem dX5_deliver_152 : decode cX5_deliver 152 = .ok (.iadd, 1) := by decide +kernel
theorem dX5_deliver_153 : decode cX5_deliver 153 = .ok (.putfield 28, 3) := by decide +kernel
theorem dX5_deliver_156 : decode cX5_deliver 156 = .ok (.aload_n 0, 1) := by decide +kernel
theorem dX5_deliver_157 : decode cX5_deliver 157 = .ok (.getfield 11, 3) := by decide +kernel
theorem dX5_deliver_160 : decode cX5_deliver 160 = .ok (.aload_n 0, 1) := by decide +kernel
theorem dX5_deliver_161 : decode cX5_deliver 161 = .ok (.getfield 24, 3) := by decide +kernel
theorem dX5_deliver_164 : decode cX5_deliver 164 = .ok (.iconst 2, 1) := by decide +kernel
theorem dX5_deliver_165 : decode cX5_deliver 165 = .ok (.iastore, 1) := by decide +kernel
theorem dX5_deliver_166 : decode cX5_deliver 166 = .ok (.return_, 1) := by decide +kernel

section
variable {p : Program} {l : Launch} {e : Env} {R : Room} {s : State} {m : MethodId} {args : Array Value} {below : List Frame} {meth : Method} {c : Code} {H : Heap} {locs : List Loc} {Qf : State → Prop}
variable {ls : Array Slot} {D : va_G} {ca : Nat → ClassId} {A : Nat → Prop} {ad : Nat → Nat → Nat} {u : iST}
def v_5_deliver_59 (Q : iST → Prop) (x2 : Int) (u : iST) : Prop :=
  rd (u.1 17) (fun v2 => 
  bd v2 41 (rd (u.2.1 23 v2) (fun v3 => 
  br (v3 ≠ 0) (
    rd (u.1 17) (fun v4 => 
    bd v4 41 (rd (u.2.1 23 v4) (fun v5 => 
    br (v5 ≠ 3) (
      rd (u.1 18) (fun v6 => 
      br (1000 ≤ v6) (
        Q u) (
        rd (u.1 18) (fun v7 => 
        bd v7 1000 (sw (iA u 26 v7 x2) (fun u => 
        rd (u.1 18) (fun v8 => 
        ov (v8 + 1) (
        sw (iI u 18 (v8 + 1)) (fun u => 
        rd (u.1 17) (fun v10 => 
        bd v10 41 (sw (iA u 23 v10 2) (fun u => 
        Q u)))))))))))) (
      rd (u.1 17) (fun v11 => 
      bd v11 41 (sw (iA u 25 v11 x2) (fun u => 
      rd (u.1 17) (fun v12 => 
      bd v12 41 (sw (iA u 23 v12 4) (fun u => 
      Q u))))))))))) (
    sw (iI u 20 x2) (fun u => 
    rd (u.1 17) (fun v13 => 
    bd v13 41 (sw (iA u 23 v13 6) (fun u => 
    Q u))))))))
set_option maxRecDepth 20000 in
set_option maxHeartbeats 4000000 in
theorem f_5_deliver_59 (X : yX RX5 p m c cX5_deliver 3 s args D ca ad A) (hRf : 1 ≤ R.frames) (hRl : 30 ≤ R.locals) {Q : iST → Prop} (hret : ∀ (u : iST) (H : Heap) (locs : List Loc) (ls : Array Slot) (pc : Nat), Q u → yW D ca A ad s H locs u → decode cX5_deliver pc = .ok (.return_, 1) → W p l e R s m args below meth c H locs 0 0 Qf (F0 m pc ls [])) {x2 : Int} (rx2 : inR x2) (hw : yW D ca A ad s H locs u) (hl : lv_has ls 3 [(0, .ref (ad 0 4)), (2, .int (jI x2))]) (h : v_5_deliver_59 Q x2 u) : W p l e R s m args below meth c H locs 0 0 Qf (F0 m 59 ls []) := by
  have hx := X.1.1
  have hb := X.1.2.1
  unfold v_5_deliver_59 at h
  refine lv_aload_n hx hb dX5_deliver_59 rfl (lv_at hl 0 rfl) ?_
  refine yg_5_11 X hw dX5_deliver_60 ?_
  refine lv_aload_n hx hb dX5_deliver_63 rfl (lv_at hl 0 rfl) ?_
  refine yg_5_24 X hw dX5_deliver_64 h (fun v2 rv2 h => ?_)
  refine yl_23 X hw rv2 dX5_deliver_67 h (fun v3 rv3 h => ?_)
  refine k_if_ne hx hb rv3 dX5_deliver_68 (tgt := 90) rfl h (fun h => ?_) (fun h => ?_)
  · refine lv_aload_n hx hb dX5_deliver_90 rfl (lv_at hl 0 rfl) ?_
    refine yg_5_11 X hw dX5_deliver_91 ?_
    refine lv_aload_n hx hb dX5_deliver_94 rfl (lv_at hl 0 rfl) ?_
    refine yg_5_24 X hw dX5_deliver_95 h (fun v4 rv4 h => ?_)
    refine yl_23 X hw rv4 dX5_deliver_98 h (fun v5 rv5 h => ?_)
    refine lv_iconst hx hb dX5_deliver_99 (v := jI 3) rfl ?_
    refine k_icmp_ne hx hb rv5 (by decide) dX5_deliver_100 (tgt := 126) rfl h (fun h => ?_) (fun h => ?_)
    · refine lv_aload_n hx hb dX5_deliver_126 rfl (lv_at hl 0 rfl) ?_
      refine yg_5_28 X hw dX5_deliver_127 h (fun v6 rv6 h => ?_)
      refine lv_sipush hx hb dX5_deliver_130 (v := jI 1000) rfl ?_
      refine k_icmp_ge hx hb rv6 (by decide) dX5_deliver_133 (tgt := 166) rfl h (fun h => ?_) (fun h => ?_)
      · exact hret _ _ _ _ _ h hw dX5_deliver_166
      · refine lv_aload_n hx hb dX5_deliver_136 rfl (lv_at hl 0 rfl) ?_
        refine yg_5_21 X hw dX5_deliver_137 ?_
        refine lv_aload_n hx hb dX5_deliver_140 rfl (lv_at hl 0 rfl) ?_
        refine yg_5_28 X hw dX5_deliver_141 h (fun v7 rv7 h => ?_)
        refine lv_iload_n hx hb dX5_deliver_144 rfl (lv_at hl 1 rfl) ?_
        refine yt_26 X hw rv7 rx2 dX5_deliver_145 h (fun H locs u hw h => ?_)
        refine lv_aload_n hx hb dX5_deliver_146 rfl (lv_at hl 0 rfl) ?_
        refine lv_dup hx hb dX5_deliver_147 rfl ?_
        refine yg_5_28 X hw dX5_deliver_148 h (fun v8 rv8 h => ?_)
        refine lv_iconst hx hb dX5_deliver_151 (v := jI 1) rfl ?_
        refine k_iadd hx hb dX5_deliver_152 h (fun r9 h => ?_)
        refine yp_5_28 X hw r9 dX5_deliver_153 h (fun H locs u hw h => ?_)
        refine lv_aload_n hx hb dX5_deliver_156 rfl (lv_at hl 0 rfl) ?_
        refine yg_5_11 X hw dX5_deliver_157 ?_
        refine lv_aload_n hx hb dX5_deliver_160 rfl (lv_at hl 0 rfl) ?_
        refine yg_5_24 X hw dX5_deliver_161 h (fun v10 rv10 h => ?_)
        refine lv_iconst hx hb dX5_deliver_164 (v := jI 2) rfl ?_
        refine yt_23 X hw rv10 (by decide) dX5_deliver_165 h (fun H locs u hw h => ?_)
        exact hret _ _ _ _ _ h hw dX5_deliver_166
    · refine lv_aload_n hx hb dX5_deliver_103 rfl (lv_at hl 0 rfl) ?_
      refine yg_5_18 X hw dX5_deliver_104 ?_
      refine lv_aload_n hx hb dX5_deliver_107 rfl (lv_at hl 0 rfl) ?_
      refine yg_5_24 X hw dX5_deliver_108 h (fun v11 rv11 h => ?_)
      refine lv_iload_n hx hb dX5_deliver_111 rfl (lv_at hl 1 rfl) ?_
      refine yt_25 X hw rv11 rx2 dX5_deliver_112 h (fun H locs u hw h => ?_)
      refine lv_aload_n hx hb dX5_deliver_113 rfl (lv_at hl 0 rfl) ?_
      refine yg_5_11 X hw dX5_deliver_114 ?_
      refine lv_aload_n hx hb dX5_deliver_117 rfl (lv_at hl 0 rfl) ?_
      refine yg_5_24 X hw dX5_deliver_118 h (fun v12 rv12 h => ?_)
      refine lv_iconst hx hb dX5_deliver_121 (v := jI 4) rfl ?_
      refine yt_23 X hw rv12 (by decide) dX5_deliver_122 h (fun H locs u hw h => ?_)
      refine lv_goto hx hb dX5_deliver_123 (tgt := 166) rfl ?_
      exact hret _ _ _ _ _ h hw dX5_deliver_166
  · refine lv_aload_n hx hb dX5_deliver_71 rfl (lv_at hl 0 rfl) ?_
    refine lv_iload_n hx hb dX5_deliver_72 rfl (lv_at hl 1 rfl) ?_
    refine yp_5_34 X hw rx2 dX5_deliver_73 h (fun H locs u hw h => ?_)
    refine lv_aload_n hx hb dX5_deliver_76 rfl (lv_at hl 0 rfl) ?_
    refine yg_5_11 X hw dX5_deliver_77 ?_
    refine lv_aload_n hx hb dX5_deliver_80 rfl (lv_at hl 0 rfl) ?_
    refine yg_5_24 X hw dX5_deliver_81 h (fun v13 rv13 h => ?_)
    refine lv_bipush hx hb dX5_deliver_84 (v := jI 6) rfl ?_
    refine yt_23 X hw rv13 (by decide) dX5_deliver_86 h (fun H locs u hw h => ?_)
    refine lv_goto hx hb dX5_deliver_87 (tgt := 166) rfl ?_
    exact hret _ _ _ _ _ h hw dX5_deliver_166

def v_5_deliver_2b (R2 : Int → iST → Prop) (Q : iST → Prop) (x2 : Int) (u : iST) : Prop :=
  rd (u.1 17) (fun v1 => 
  br (v1 ≤ 0) (
    v_5_deliver_59 Q x2 u) (
    rd (u.1 17) (fun v14 => 
    bd v14 41 (rd (u.2.1 23 v14) (fun v15 => 
    br (v15 ≠ 5) (
      v_5_deliver_59 Q x2 u) (
      v_11_pairCell x2 0 (fun v16 u => 
      v_7_made v16 (fun v17 u => 
      v_11_pairCell 2 v17 (fun v18 u => 
      v_7_made v18 (fun v19 u => 
      rd (u.1 17) (fun v20 => 
      ov (v20 - 1) (
      sw (iI u 17 (v20 - 1)) (fun u => 
      R2 v19 u)))) u) u) u) u))))))
def v_5_deliver_2 (Q : iST → Prop) (x2 : Int) (u : iST) : Prop := ∀ R2 : Int → iST → Prop, (∀ (x2 : Int) (u : iST), v_5_deliver_2b R2 Q x2 u → R2 x2 u) → R2 x2 u
set_option maxRecDepth 20000 in
set_option maxHeartbeats 4000000 in
theorem f_5_deliver_2 (X : yX RX5 p m c cX5_deliver 3 s args D ca ad A) (hRf : 1 ≤ R.frames) (hRl : 30 ≤ R.locals) {Q : iST → Prop} (hret : ∀ (u : iST) (H : Heap) (locs : List Loc) (ls : Array Slot) (pc : Nat), Q u → yW D ca A ad s H locs u → decode cX5_deliver pc = .ok (.return_, 1) → W p l e R s m args below meth c H locs 0 0 Qf (F0 m pc ls [])) {x2 : Int} (rx2 : inR x2) (hw : yW D ca A ad s H locs u) (hl : lv_has ls 3 [(0, .ref (ad 0 4)), (2, .int (jI x2))]) (h : v_5_deliver_2 Q x2 u) : W p l e R s m args below meth c H locs 0 0 Qf (F0 m 2 ls []) := by
  refine h (fun x2 u => ∀ (H : Heap) (locs : List Loc) (ls : Array Slot), inR x2 → yW D ca A ad s H locs u → lv_has ls 3 [(0, .ref (ad 0 4)), (2, .int (jI x2))] → W p l e R s m args below meth c H locs 0 0 Qf (F0 m 2 ls [])) ?_ H locs ls rx2 hw hl
  clear h hl hw rx2
  intro x2 u h H locs ls rx2 hw hl
  have hR2 : ∀ (x2 : Int) (u : iST) (H : Heap) (locs : List Loc) (ls : Array Slot), inR x2 → yW D ca A ad s H locs u → lv_has ls 3 [(0, .ref (ad 0 4)), (2, .int (jI x2))] → (fun (x2 : Int) u => ∀ (H : Heap) (locs : List Loc) (ls : Array Slot), inR x2 → yW D ca A ad s H locs u → lv_has ls 3 [(0, .ref (ad 0 4)), (2, .int (jI x2))] → W p l e R s m args below meth c H locs 0 0 Qf (F0 m 2 ls [])) x2 u → W p l e R s m args below meth c H locs 0 0 Qf (F0 m 2 ls []) := fun x2 u H locs ls rx2 hw hl h => h H locs ls rx2 hw hl
  have hx := X.1.1
  have hb := X.1.2.1
  unfold v_5_deliver_2b at h
  refine lv_aload_n hx hb dX5_deliver_2 rfl (lv_at hl 0 rfl) ?_
  refine yg_5_24 X hw dX5_deliver_3 h (fun v1 rv1 h => ?_)
  refine k_if_le hx hb rv1 dX5_deliver_6 (tgt := 59) rfl h (fun h => ?_) (fun h => ?_)
  · exact f_5_deliver_59 X hRf hRl hret rx2 hw hl h
  · refine lv_aload_n hx hb dX5_deliver_9 rfl (lv_at hl 0 rfl) ?_
    refine yg_5_11 X hw dX5_deliver_10 ?_
    refine lv_aload_n hx hb dX5_deliver_13 rfl (lv_at hl 0 rfl) ?_
    refine yg_5_24 X hw dX5_deliver_14 h (fun v14 rv14 h => ?_)
    refine yl_23 X hw rv14 dX5_deliver_17 h (fun v15 rv15 h => ?_)
    refine lv_iconst hx hb dX5_deliver_18 (v := jI 5) rfl ?_
    refine k_icmp_ne hx hb rv15 (by decide) dX5_deliver_19 (tgt := 59) rfl h (fun h => ?_) (fun h => ?_)
    · exact f_5_deliver_59 X hRf hRl hret rx2 hw hl h
    · refine lv_aload_n hx hb dX5_deliver_22 rfl (lv_at hl 0 rfl) ?_
      refine yg_5_43 X hw dX5_deliver_23 ?_
      refine lv_iconst hx hb dX5_deliver_26 (v := jI 2) rfl ?_
      refine lv_aload_n hx hb dX5_deliver_27 rfl (lv_at hl 0 rfl) ?_
      refine yg_5_43 X hw dX5_deliver_28 ?_
      refine lv_iload_n hx hb dX5_deliver_31 rfl (lv_at hl 1 rfl) ?_
      refine lv_iconst hx hb dX5_deliver_32 (v := jI 0) rfl ?_
      refine ycSN (n := 2) (e_11_pairCell rx2 (by decide) h) (host := "ProofHouse") rfl goodPair yD_11_pairCell.2 X hw (yNm_5_107 X.2.2.1) (ysI_in (List.mem_of_getElem? (i := 11) rfl)) statPair (Nat.le_trans (Nat.le_of_ble_eq_true rfl) hRf) (Nat.le_trans (Nat.le_of_ble_eq_true rfl) hRl) rfl hl.1 (Nat.le_of_ble_eq_true rfl) rfl dX5_deliver_33 (fun v16 u H locs rv16 h hw => ?_)
      refine ycI (n := 1) (e_7_made rv16 h) 7 6 (r := (RX7, TX7, 9)) rfl yG_5_85 yD_7_made X hw rfl yGo_7 (Nat.le_trans (Nat.le_of_ble_eq_true rfl) hRf) (Nat.le_trans (Nat.le_of_ble_eq_true rfl) hRl) rfl hl.1 (Nat.le_of_ble_eq_true rfl) rfl dX5_deliver_36 (fun v17 u H locs rv17 h hw => ?_)
      refine ycSN (n := 2) (e_11_pairCell (by decide) rv17 h) (host := "ProofHouse") rfl goodPair yD_11_pairCell.2 X hw (yNm_5_107 X.2.2.1) (ysI_in (List.mem_of_getElem? (i := 11) rfl)) statPair (Nat.le_trans (Nat.le_of_ble_eq_true rfl) hRf) (Nat.le_trans (Nat.le_of_ble_eq_true rfl) hRl) rfl hl.1 (Nat.le_of_ble_eq_true rfl) rfl dX5_deliver_39 (fun v18 u H locs rv18 h hw => ?_)
      refine ycI (n := 1) (e_7_made rv18 h) 7 6 (r := (RX7, TX7, 9)) rfl yG_5_85 yD_7_made X hw rfl yGo_7 (Nat.le_trans (Nat.le_of_ble_eq_true rfl) hRf) (Nat.le_trans (Nat.le_of_ble_eq_true rfl) hRl) rfl hl.1 (Nat.le_of_ble_eq_true rfl) rfl dX5_deliver_42 (fun v19 u H locs rv19 h hw => ?_)
      refine lv_istore_n hx hb dX5_deliver_45 rfl hl (by decide) rfl (fun ls hl => ?_)
      have hl : lv_has ls 3 [(2, .int (jI v19)), (0, .ref (ad 0 4))] := hl
      refine lv_aload_n hx hb dX5_deliver_46 rfl (lv_at hl 1 rfl) ?_
      refine lv_dup hx hb dX5_deliver_47 rfl ?_
      refine yg_5_24 X hw dX5_deliver_48 h (fun v20 rv20 h => ?_)
      refine lv_iconst hx hb dX5_deliver_51 (v := jI 1) rfl ?_
      refine k_isub hx hb dX5_deliver_52 h (fun r21 h => ?_)
      refine yp_5_24 X hw r21 dX5_deliver_53 h (fun H locs u hw h => ?_)
      refine lv_goto hx hb dX5_deliver_56 (tgt := 2) rfl ?_
      exact hR2 _ _ H locs ls rv19 hw (lv_sub hl [1, 0] rfl) h

def v_5_deliver (a0 : Int) (Q : iST → Prop) (u : iST) : Prop :=
  v_5_deliver_2 Q a0 u
set_option maxRecDepth 20000 in
set_option maxHeartbeats 4000000 in
theorem f_5_deliver_s (X : yX RX5 p m c cX5_deliver 3 s args D ca ad A) (hRf : 1 ≤ R.frames) (hRl : 30 ≤ R.locals) {Q : iST → Prop} (hret : ∀ (u : iST) (H : Heap) (locs : List Loc) (ls : Array Slot) (pc : Nat), Q u → yW D ca A ad s H locs u → decode cX5_deliver pc = .ok (.return_, 1) → W p l e R s m args below meth c H locs 0 0 Qf (F0 m pc ls [])) {a0 : Int} (ra0 : inR a0) (hw : yW D ca A ad s H locs u) (hl : lv_has ls 3 [(0, .ref (ad 0 4)), (1, .int (jI a0))]) (h : v_5_deliver a0 Q u) : W p l e R s m args below meth c H locs 0 0 Qf (F0 m 0 ls []) := by
  have hx := X.1.1
  have hb := X.1.2.1
  unfold v_5_deliver at h
  refine lv_iload_n hx hb dX5_deliver_0 rfl (lv_at hl 1 rfl) ?_
  refine lv_istore_n hx hb dX5_deliver_1 rfl hl (by decide) rfl (fun ls hl => ?_)
  have hl : lv_has ls 3 [(2, .int (jI a0)), (0, .ref (ad 0 4)), (1, .int (jI a0))] := hl
  exact f_5_deliver_2 X hRf hRl hret ra0 hw (lv_sub hl [1, 0] rfl) h

end
theorem e_5_deliver {l : Launch} {a0 : Int} (ra0 : inR a0) {Q : iST → Prop} {u : iST} (h : v_5_deliver a0 Q u) : yMV l yX5_deliver (.code yX5_deliver cX5_deliver 3 none :: wsN) { frames := 1, cells := 0, slots := 0, locals := 30 } (fun ad => [.ref (ad 0 4), .int (jI a0)]) Q u := yMV_of (own := RX5) rfl (by decide +kernel) (fun _ => Nat.le_of_ble_eq_true rfl) (fun X hRf hRl hret hw hl => f_5_deliver_s X hRf hRl hret ra0 hw hl h)

/-! ProofHouse$Reader.takeMark -/
theorem dX5_takeMark_0 : decode cX5_takeMark 0 = .ok (.iload_n 1, 1) := by decide +kernel
theorem dX5_takeMark_1 : decode cX5_takeMark 1 = .ok (.bipush 46, 2) := by decide +kernel
theorem dX5_takeMark_3 : decode cX5_takeMark 3 = .ok (.if_icmp .ne 16, 3) := by decide +kernel
theorem dX5_takeMark_6 : decode cX5_takeMark 6 = .ok (.aload_n 0, 1) := by decide +kernel
theorem dX5_takeMark_7 : decode cX5_takeMark 7 = .ok (.getfield 11, 3) := by decide +kernel
theorem dX5_takeMark_10 : decode cX5_takeMark 10 = .ok (.aload_n 0, 1) := by decide +kernel
theorem dX5_takeMark_11 : decode cX5_takeMark 11 = .ok (.getfield 24, 3) := by decide +kernel
theorem dX5_takeMark_14 : decode cX5_takeMark 14 = .ok (.iconst 3, 1) := by decide +kernel
theorem dX5_takeMark_15 : decode cX5_takeMark 15 = .ok (.iastore, 1) := by decide +kernel
theorem dX5_takeMark_16 : decode cX5_takeMark 16 = .ok (.goto 169, 3) := by decide +kernel
theorem dX5_takeMark_19 : decode cX5_takeMark 19 = .ok (.iload_n 1, 1) := by decide +kernel
theorem dX5_takeMark_20 : decode cX5_takeMark 20 = .ok (.bipush 41, 2) := by decide +kernel
theorem dX5_takeMark_22 : decode cX5_takeMark 22 = .ok (.if_icmp .ne 95, 3) := by decide +kernel
theorem dX5_takeMark_25 : decode cX5_takeMark 25 = .ok (.aload_n 0, 1) := by decide +kernel
theorem dX5_takeMark_26 : decode cX5_takeMark 26 = .ok (.getfield 24, 3) := by decide +kernel
theorem dX5_takeMark_29 : decode cX5_takeMark 29 = .ok (.ifCond .le 88, 3) := by decide +kernel
theorem dX5_takeMark_32 : decode cX5_takeMark 32 = .ok (.aload_n 0, 1) := by decide +kernel
theorem dX5_takeMark_33 : decode cX5_takeMark 33 = .ok (.getfield 18, 3) := by decide +kernel
theorem dX5_takeMark_36 : decode cX5_takeMark 36 = .ok (.aload_n 0, 1) := by decide +kernel
theorem dX5_takeMark_37 : decode cX5_takeMark 37 = .ok (.getfield 24, 3) := by decide +kernel
theorem dX5_takeMark_40 : decode cX5_takeMark 40 = .ok (.iaload, 1) := by decide +kernel
theorem dX5_takeMark_41 : decode cX5_takeMark 41 = .ok (.istore_n 2, 1) := by decide +kernel
theorem dX5_takeMark_42 : decode cX5_takeMark 42 = .ok (.aload_n 0, 1) := by decide +kernel
theorem dX5_takeMark_43 : decode cX5_takeMark 43 = .ok (.getfield 28, 3) := by decide +kernel
theorem dX5_takeMark_46 : decode cX5_takeMark 46 = .ok (.aload_n 0, 1) := by decide +kernel
theorem dX5_takeMark_47 : decode cX5_takeMark 47 = .ok (.getfield 15, 3) := by decide +kernel
theorem dX5_takeMark_50 : decode cX5_takeMark 50 = .ok (.aload_n 0, 1) := by decide +kernel
theorem dX5_takeMark_51 : decode cX5_takeMark 51 = .ok (.getfield 24, 3) := by decide +kernel
theorem dX5_takeMark_54 : decode cX5_takeMark 54 = .ok (.iaload, 1) := by decide +kernel
theorem dX5_takeMark_55 : decode cX5_takeMark 55 = .ok (.if_icmp .le 44, 3) := by decide +kernel
theorem dX5_takeMark_58 : decode cX5_takeMark 58 = .ok (.aload_n 0, 1) := by decide +kernel
theorem dX5_takeMark_59 : decode cX5_takeMark 59 = .ok (.getfield 28, 3) := by decide +kernel
theorem dX5_takeMark_62 : decode cX5_takeMark 62 = .ok (.ifCond .le 37, 3) := by decide +kernel
theorem dX5_takeMark_65 : decode cX5_takeMark 65 = .ok (.aload_n 0, 1) := by decide +kernel
theorem dX5_takeMark_66 : decode cX5_takeMark 66 = .ok (.dup, 1) := by decide +kernel
theorem dX5_takeMark_67 : decode cX5_takeMark 67 = .ok (.getfield 28, 3) := by decide +kernel
theorem dX5_takeMark_70 : decode cX5_takeMark 70 = .ok (.iconst 1, 1) := by decide +kernel
theorem dX5_takeMark_71 : decode cX5_takeMark 71 = .ok (.isub, 1) := by decide +kernel
theorem dX5_takeMark_72 : decode cX5_takeMark 72 = .ok (.putfield 28, 3) := by decide +kernel
theorem dX5_takeMark_75 : decode cX5_takeMark 75 = .ok (.aload_n 0, 1) := by decide +kernel
theorem dX5_takeMark_76 : decode cX5_takeMark 76 = .ok (.getfield 43, 3) := by decide +kernel
theorem dX5_takeMark_79 : decode cX5_takeMark 79 = .ok (.aload_n 0, 1) := by decide +kernel
theorem dX5_takeMark_80 : decode cX5_takeMark 80 = .ok (.getfield 21, 3) := by decide +kernel
theorem dX5_takeMark_83 : decode cX5_takeMark 83 = .ok (.aload_n 0, 1) := by decide +kernel
theorem dX5_takeMark_84 : decode cX5_takeMark 84 = .ok (.getfield 28, 3) := by decide +kernel
theorem dX5_takeMark_87 : decode cX5_takeMark 87 = .ok (.iaload, 1) := by decide +kernel
theorem dX5_takeMark_88 : decode cX5_takeMark 88 = .ok (.iload_n 2, 1) := by decide +kernel
theorem dX5_takeMark_89 : decode cX5_takeMark 89 = .ok (.invokestatic 107, 3) := by decide +kernel
theorem dX5_takeMark_92 : decode cX5_takeMark 92 = .ok (.invokevirtual 85, 3) := by decide +kernel
theorem dX5_takeMark_95 : decode cX5_takeMark 95 = .ok (.istore_n 2, 1) := by decide +kernel
theorem dX5_takeMark_96 : decode cX5_takeMark 96 = .ok (.goto (-54), 3) := by decide +kernel
theorem dX5_takeMark_99 : decode cX5_takeMark 99 = .ok (.aload_n 0, 1) := by decide +kernel
theorem dX5_takeMark_100 : decode cX5_takeMark 100 = .ok (.dup, 1) := by decide +kernel
theorem dX5_takeMark_101 : decode cX5_takeMark 101 = .ok (.getfield 24, 3) := by decide +kernel
theorem dX5_takeMark_104 : decode cX5_takeMark 104 = .ok (.iconst 1, 1) := by decide +kernel
theorem dX5_takeMark_105 : decode cX5_takeMark 105 = .ok (.isub, 1) := by decide +kernel
theorem dX5_takeMark_106 : decode cX5_takeMark 106 = .ok (.putfield 24, 3) := by decide +kernel
theorem dX5_takeMark_109 : decode cX5_takeMark 109 = .ok (.aload_n 0, 1) := by decide +kernel
theorem dX5_takeMark_110 : decode cX5_takeMark 110 = .ok (.iload_n 2, 1) := by decide +kernel
theorem dX5_takeMark_111 : decode cX5_takeMark 111 = .ok (.invokevirtual 91, 3) := by decide +kernel
theorem dX5_takeMark_114 : decode cX5_takeMark 114 = .ok (.goto 71, 3) := by decide +kernel
theorem dX5_takeMark_117 : decode cX5_takeMark 117 = .ok (.iload_n 1, 1) := by decide +kernel
theorem dX5_takeMark_118 : decode cX5_takeMark 118 = .ok (.bipush 41, 2) := by decide +kernel
theorem dX5_takeMark_120 : decode cX5_takeMark 120 = .ok (.if_icmp .eq 65, 3) := by decide +kernel
theorem dX5_takeMark_123 : decode cX5_takeMark 123 = .ok (.aload_n 0, 1) := by decide +kernel
theorem dX5_takeMark_124 : decode cX5_takeMark 124 = .ok (.getfield 24, 3) := by decide +kernel
theorem dX5_takeMark_127 : decode cX5_takeMark 127 = .ok (.bipush 40, 2) := by decide +kernel
theorem dX5_takeMark_129 : decode cX5_takeMark 129 = .ok (.if_icmp .ge 56, 3) := by decide +kernel
theorem dX5_takeMark_132 : decode cX5_takeMark 132 = .ok (.aload_n 0, 1) := by decide +kernel
theorem dX5_takeMark_133 : decode cX5_takeMark 133 = .ok (.dup, 1) := by decide +kernel
theorem dX5_takeMark_134 : decode cX5_takeMark 134 = .ok (.getfield 24, 3) := by decide +kernel
theorem dX5_takeMark_137 : decode cX5_takeMark 137 = .ok (.iconst 1, 1) := by decide +kernel
theorem dX5_takeMark_138 : decode cX5_takeMark 138 = .ok (.iadd, 1) := by decide +kernel
theorem dX5_takeMark_139 : decode cX5_takeMark 139 = .ok (.putfield 24, 3) := by decide +kernel
theorem dX5_takeMark_142 : decode cX5_takeMark 142 = .ok (.aload_n 0, 1) := by decide +kernel
theorem dX5_takeMark_143 : decode cX5_takeMark 143 = .ok (.getfield 11, 3) := by decide +kernel
theorem dX5_takeMark_146 : decode cX5_takeMark 146 = .ok (.aload_n 0, 1) := by decide +kernel
theorem dX5_takeMark_147 : decode cX5_takeMark 147 = .ok (.getfield 24, 3) := by decide +kernel
theorem dX5_takeMark_150 : decode cX5_takeMark 150 = .ok (.iload_n 1, 1) := by decide +kernel
theorem dX5_takeMark_151 : decode cX5_takeMark 151 = .ok (.bipush 40, 2) := by decide +kernel
theorem dX5_takeMark_153 : decode cX5_takeMark 153 = .ok (.if_icmp .ne 7, 3) := by decide +kernel
theorem dX5_takeMark_156 : decode cX5_takeMark 156 = .ok (.iconst 1, 1) := by decide +kernel
theorem dX5_takeMark_157 : decode cX5_takeMark 157 = .ok (.goto 4, 3) := by decide +kernel
theorem dX5_takeMark_160 : decode cX5_takeMark 160 = .ok (.iconst 5, 1) := by decide +kernel
theorem dX5_takeMark_161 : decode cX5_takeMark 161 = .ok (.iastore, 1) := by decide +kernel
theorem dX5_takeMark_162 : decode cX5_takeMark 162 = .ok (.aload_n 0, 1) := by decide +kernel
theorem dX5_takeMark_163 : decode cX5_takeMark 163 = .ok (.getfield 15, 3) := by decide +kernel
theorem dX5_takeMark_166 : decode cX5_takeMark 166 = .ok (.aload_n 0, 1) := by decide +kernel
theorem dX5_takeMark_167 : decode cX5_takeMark 167 = .ok (.getfield 24, 3) := by decide +kernel
theorem dX5_takeMark_170 : decode cX5_takeMark 170 = .ok (.aload_n 0, 1) := by decide +kernel
theorem dX5_takeMark_171 : decode cX5_takeMark 171 = .ok (.getfield 28, 3) := by decide +kernel
theorem dX5_takeMark_174 : decode cX5_takeMark 174 = .ok (.iastore, 1) := by decide +kernel
theorem dX5_takeMark_175 : decode cX5_takeMark 175 = .ok (.aload_n 0, 1) := by decide +kernel
theorem dX5_takeMark_176 : decode cX5_takeMark 176 = .ok (.getfield 18, 3) := by decide +kernel
theorem dX5_takeMark_179 : decode cX5_takeMark 179 = .ok (.aload_n 0, 1) := by decide +kernel
theorem dX5_takeMark_180 : decode cX5_takeMark 180 = .ok (.getfield 24, 3) := by decide +kernel
theorem dX5_takeMark_183 : decode cX5_takeMark 183 = .ok (.iconst 0, 1) := by decide +kernel
theorem dX5_takeMark_184 : decode cX5_takeMark 184 = .ok (.iastore, 1) := by decide +kernel
theorem dX5_takeMark_185 : decode cX5_takeMark 185 = .ok (.return_, 1) := by decide +kernel

section
variable {p : Program} {l : Launch} {e : Env} {R : Room} {s : State} {m : MethodId} {args : Array Value} {below : List Frame} {meth : Method} {c : Code} {H : Heap} {locs : List Loc} {Qf : State → Prop}
variable {ls : Array Slot} {D : va_G} {ca : Nat → ClassId} {A : Nat → Prop} {ad : Nat → Nat → Nat} {u : iST}
def v_5_takeMark_161 (Q : iST → Prop) (y1 : Int) (y2 : Int) (u : iST) : Prop :=
  bd y1 41 (sw (iA u 23 y1 y2) (fun u => 
  rd (u.1 17) (fun v5 => 
  rd (u.1 18) (fun v6 => 
  bd v5 41 (sw (iA u 24 v5 v6) (fun u => 
  rd (u.1 17) (fun v7 => 
  bd v7 41 (sw (iA u 25 v7 0) (fun u => 
  Q u)))))))))
set_option maxRecDepth 20000 in
set_option maxHeartbeats 4000000 in
theorem f_5_takeMark_161 (X : yX RX5 p m c cX5_takeMark 3 s args D ca ad A) (hRf : 2 ≤ R.frames) (hRl : 52 ≤ R.locals) {Q : iST → Prop} (hret : ∀ (u : iST) (H : Heap) (locs : List Loc) (ls : Array Slot) (pc : Nat), Q u → yW D ca A ad s H locs u → decode cX5_takeMark pc = .ok (.return_, 1) → W p l e R s m args below meth c H locs 0 0 Qf (F0 m pc ls [])) {y1 y2 : Int} (ry1 : inR y1) (ry2 : inR y2) (hw : yW D ca A ad s H locs u) (hl : lv_has ls 3 [(0, .ref (ad 0 4))]) (h : v_5_takeMark_161 Q y1 y2 u) : W p l e R s m args below meth c H locs 0 0 Qf (F0 m 161 ls [.int (jI y2), .int (jI y1), .ref (ad 1 23)]) := by
  have hx := X.1.1
  have hb := X.1.2.1
  unfold v_5_takeMark_161 at h
  refine yt_23 X hw ry1 ry2 dX5_takeMark_161 h (fun H locs u hw h => ?_)
  refine lv_aload_n hx hb dX5_takeMark_162 rfl (lv_at hl 0 rfl) ?_
  refine yg_5_15 X hw dX5_takeMark_163 ?_
  refine lv_aload_n hx hb dX5_takeMark_166 rfl (lv_at hl 0 rfl) ?_
  refine yg_5_24 X hw dX5_takeMark_167 h (fun v5 rv5 h => ?_)
  refine lv_aload_n hx hb dX5_takeMark_170 rfl (lv_at hl 0 rfl) ?_
  refine yg_5_28 X hw dX5_takeMark_171 h (fun v6 rv6 h => ?_)
  refine yt_24 X hw rv5 rv6 dX5_takeMark_174 h (fun H locs u hw h => ?_)
  refine lv_aload_n hx hb dX5_takeMark_175 rfl (lv_at hl 0 rfl) ?_
  refine yg_5_18 X hw dX5_takeMark_176 ?_
  refine lv_aload_n hx hb dX5_takeMark_179 rfl (lv_at hl 0 rfl) ?_
  refine yg_5_24 X hw dX5_takeMark_180 h (fun v7 rv7 h => ?_)
  refine lv_iconst hx hb dX5_takeMark_183 (v := jI 0) rfl ?_
  refine yt_25 X hw rv7 (by decide) dX5_takeMark_184 h (fun H locs u hw h => ?_)
  exact hret _ _ _ _ _ h hw dX5_takeMark_185

def v_5_takeMark_117 (Q : iST → Prop) (x1 : Int) (u : iST) : Prop :=
  br (x1 = 41) (
    Q u) (
    rd (u.1 17) (fun v1 => 
    br (40 ≤ v1) (
      Q u) (
      rd (u.1 17) (fun v2 => 
      ov (v2 + 1) (
      sw (iI u 17 (v2 + 1)) (fun u => 
      rd (u.1 17) (fun v4 => 
      br (x1 ≠ 40) (
        v_5_takeMark_161 Q v4 5 u) (
        v_5_takeMark_161 Q v4 1 u))))))))
set_option maxRecDepth 20000 in
set_option maxHeartbeats 4000000 in
theorem f_5_takeMark_117 (X : yX RX5 p m c cX5_takeMark 3 s args D ca ad A) (hRf : 2 ≤ R.frames) (hRl : 52 ≤ R.locals) {Q : iST → Prop} (hret : ∀ (u : iST) (H : Heap) (locs : List Loc) (ls : Array Slot) (pc : Nat), Q u → yW D ca A ad s H locs u → decode cX5_takeMark pc = .ok (.return_, 1) → W p l e R s m args below meth c H locs 0 0 Qf (F0 m pc ls [])) {x1 : Int} (rx1 : inR x1) (hw : yW D ca A ad s H locs u) (hl : lv_has ls 3 [(0, .ref (ad 0 4)), (1, .int (jI x1))]) (h : v_5_takeMark_117 Q x1 u) : W p l e R s m args below meth c H locs 0 0 Qf (F0 m 117 ls []) := by
  have hx := X.1.1
  have hb := X.1.2.1
  unfold v_5_takeMark_117 at h
  refine lv_iload_n hx hb dX5_takeMark_117 rfl (lv_at hl 1 rfl) ?_
  refine lv_bipush hx hb dX5_takeMark_118 (v := jI 41) rfl ?_
  refine k_icmp_eq hx hb rx1 (by decide) dX5_takeMark_120 (tgt := 185) rfl h (fun h => ?_) (fun h => ?_)
  · exact hret _ _ _ _ _ h hw dX5_takeMark_185
  · refine lv_aload_n hx hb dX5_takeMark_123 rfl (lv_at hl 0 rfl) ?_
    refine yg_5_24 X hw dX5_takeMark_124 h (fun v1 rv1 h => ?_)
    refine lv_bipush hx hb dX5_takeMark_127 (v := jI 40) rfl ?_
    refine k_icmp_ge hx hb rv1 (by decide) dX5_takeMark_129 (tgt := 185) rfl h (fun h => ?_) (fun h => ?_)
    · exact hret _ _ _ _ _ h hw dX5_takeMark_185
    · refine lv_aload_n hx hb dX5_takeMark_132 rfl (lv_at hl 0 rfl) ?_
      refine lv_dup hx hb dX5_takeMark_133 rfl ?_
      refine yg_5_24 X hw dX5_takeMark_134 h (fun v2 rv2 h => ?_)
      refine lv_iconst hx hb dX5_takeMark_137 (v := jI 1) rfl ?_
      refine k_iadd hx hb dX5_takeMark_138 h (fun r3 h => ?_)
      refine yp_5_24 X hw r3 dX5_takeMark_139 h (fun H locs u hw h => ?_)
      refine lv_aload_n hx hb dX5_takeMark_142 rfl (lv_at hl 0 rfl) ?_
      refine yg_5_11 X hw dX5_takeMark_143 ?_
      refine lv_aload_n hx hb dX5_takeMark_146 rfl (lv_at hl 0 rfl) ?_
      refine yg_5_24 X hw dX5_takeMark_147 h (fun v4 rv4 h => ?_)
      refine lv_iload_n hx hb dX5_takeMark_150 rfl (lv_at hl 1 rfl) ?_
      refine lv_bipush hx hb dX5_takeMark_151 (v := jI 40) rfl ?_
      refine k_icmp_ne hx hb rx1 (by decide) dX5_takeMark_153 (tgt := 160) rfl h (fun h => ?_) (fun h => ?_)
      · refine lv_iconst hx hb dX5_takeMark_160 (v := jI 5) rfl ?_
        exact f_5_takeMark_161 X hRf hRl hret rv4 (by decide) hw (lv_sub hl [0] rfl) h
      · refine lv_iconst hx hb dX5_takeMark_156 (v := jI 1) rfl ?_
        refine lv_goto hx hb dX5_takeMark_157 (tgt := 161) rfl ?_
        exact f_5_takeMark_161 X hRf hRl hret rv4 (by decide) hw (lv_sub hl [0] rfl) h

def v_5_takeMark_99 (Q : iST → Prop) (x2 : Int) (u : iST) : Prop :=
  rd (u.1 17) (fun v14 => 
  ov (v14 - 1) (
  sw (iI u 17 (v14 - 1)) (fun u => 
  v_5_deliver x2 (fun u => 
  Q u) u)))
set_option maxRecDepth 20000 in
set_option maxHeartbeats 4000000 in
theorem f_5_takeMark_99 (X : yX RX5 p m c cX5_takeMark 3 s args D ca ad A) (hRf : 2 ≤ R.frames) (hRl : 52 ≤ R.locals) {Q : iST → Prop} (hret : ∀ (u : iST) (H : Heap) (locs : List Loc) (ls : Array Slot) (pc : Nat), Q u → yW D ca A ad s H locs u → decode cX5_takeMark pc = .ok (.return_, 1) → W p l e R s m args below meth c H locs 0 0 Qf (F0 m pc ls [])) {x2 : Int} (rx2 : inR x2) (hw : yW D ca A ad s H locs u) (hl : lv_has ls 3 [(0, .ref (ad 0 4)), (2, .int (jI x2))]) (h : v_5_takeMark_99 Q x2 u) : W p l e R s m args below meth c H locs 0 0 Qf (F0 m 99 ls []) := by
  have hx := X.1.1
  have hb := X.1.2.1
  unfold v_5_takeMark_99 at h
  refine lv_aload_n hx hb dX5_takeMark_99 rfl (lv_at hl 0 rfl) ?_
  refine lv_dup hx hb dX5_takeMark_100 rfl ?_
  refine yg_5_24 X hw dX5_takeMark_101 h (fun v14 rv14 h => ?_)
  refine lv_iconst hx hb dX5_takeMark_104 (v := jI 1) rfl ?_
  refine k_isub hx hb dX5_takeMark_105 h (fun r15 h => ?_)
  refine yp_5_24 X hw r15 dX5_takeMark_106 h (fun H locs u hw h => ?_)
  refine lv_aload_n hx hb dX5_takeMark_109 rfl (lv_at hl 0 rfl) ?_
  refine lv_iload_n hx hb dX5_takeMark_110 rfl (lv_at hl 1 rfl) ?_
  refine ycV (n := 1) (e_5_deliver rx2 h) 5 4 (r := (RX5, TX5, 11)) rfl yG_5_91 yD_5_deliver X hw rfl yGo_5 (Nat.le_trans (Nat.le_of_ble_eq_true rfl) hRf) (Nat.le_trans (Nat.le_of_ble_eq_true rfl) hRl) rfl hl.1 (Nat.le_of_ble_eq_true rfl) rfl dX5_takeMark_111 (fun u H locs h hw => ?_)
  refine lv_goto hx hb dX5_takeMark_114 (tgt := 185) rfl ?_
  exact hret _ _ _ _ _ h hw dX5_takeMark_185

def v_5_takeMark_42b (R42 : Int → iST → Prop) (Q : iST → Prop) (x2 : Int) (u : iST) : Prop :=
  rd (u.1 18) (fun v11 => 
  rd (u.1 17) (fun v12 => 
  bd v12 41 (rd (u.2.1 24 v12) (fun v13 => 
  br (v11 ≤ v13) (
    v_5_takeMark_99 Q x2 u) (
    rd (u.1 18) (fun v17 => 
    br (v17 ≤ 0) (
      v_5_takeMark_99 Q x2 u) (
      rd (u.1 18) (fun v18 => 
      ov (v18 - 1) (
      sw (iI u 18 (v18 - 1)) (fun u => 
      rd (u.1 18) (fun v20 => 
      bd v20 1000 (rd (u.2.1 26 v20) (fun v21 => 
      v_11_pairCell v21 x2 (fun v22 u => 
      v_7_made v22 (fun v23 u => 
      R42 v23 u) u) u)))))))))))))
def v_5_takeMark_42 (Q : iST → Prop) (x2 : Int) (u : iST) : Prop := ∀ R42 : Int → iST → Prop, (∀ (x2 : Int) (u : iST), v_5_takeMark_42b R42 Q x2 u → R42 x2 u) → R42 x2 u
set_option maxRecDepth 20000 in
set_option maxHeartbeats 4000000 in
theorem f_5_takeMark_42 (X : yX RX5 p m c cX5_takeMark 3 s args D ca ad A) (hRf : 2 ≤ R.frames) (hRl : 52 ≤ R.locals) {Q : iST → Prop} (hret : ∀ (u : iST) (H : Heap) (locs : List Loc) (ls : Array Slot) (pc : Nat), Q u → yW D ca A ad s H locs u → decode cX5_takeMark pc = .ok (.return_, 1) → W p l e R s m args below meth c H locs 0 0 Qf (F0 m pc ls [])) {x2 : Int} (rx2 : inR x2) (hw : yW D ca A ad s H locs u) (hl : lv_has ls 3 [(0, .ref (ad 0 4)), (2, .int (jI x2))]) (h : v_5_takeMark_42 Q x2 u) : W p l e R s m args below meth c H locs 0 0 Qf (F0 m 42 ls []) := by
  refine h (fun x2 u => ∀ (H : Heap) (locs : List Loc) (ls : Array Slot), inR x2 → yW D ca A ad s H locs u → lv_has ls 3 [(0, .ref (ad 0 4)), (2, .int (jI x2))] → W p l e R s m args below meth c H locs 0 0 Qf (F0 m 42 ls [])) ?_ H locs ls rx2 hw hl
  clear h hl hw rx2
  intro x2 u h H locs ls rx2 hw hl
  have hR42 : ∀ (x2 : Int) (u : iST) (H : Heap) (locs : List Loc) (ls : Array Slot), inR x2 → yW D ca A ad s H locs u → lv_has ls 3 [(0, .ref (ad 0 4)), (2, .int (jI x2))] → (fun (x2 : Int) u => ∀ (H : Heap) (locs : List Loc) (ls : Array Slot), inR x2 → yW D ca A ad s H locs u → lv_has ls 3 [(0, .ref (ad 0 4)), (2, .int (jI x2))] → W p l e R s m args below meth c H locs 0 0 Qf (F0 m 42 ls [])) x2 u → W p l e R s m args below meth c H locs 0 0 Qf (F0 m 42 ls []) := fun x2 u H locs ls rx2 hw hl h => h H locs ls rx2 hw hl
  have hx := X.1.1
  have hb := X.1.2.1
  unfold v_5_takeMark_42b at h
  refine lv_aload_n hx hb dX5_takeMark_42 rfl (lv_at hl 0 rfl) ?_
  refine yg_5_28 X hw dX5_takeMark_43 h (fun v11 rv11 h => ?_)
  refine lv_aload_n hx hb dX5_takeMark_46 rfl (lv_at hl 0 rfl) ?_
  refine yg_5_15 X hw dX5_takeMark_47 ?_
  refine lv_aload_n hx hb dX5_takeMark_50 rfl (lv_at hl 0 rfl) ?_
  refine yg_5_24 X hw dX5_takeMark_51 h (fun v12 rv12 h => ?_)
  refine yl_24 X hw rv12 dX5_takeMark_54 h (fun v13 rv13 h => ?_)
  refine k_icmp_le hx hb rv11 rv13 dX5_takeMark_55 (tgt := 99) rfl h (fun h => ?_) (fun h => ?_)
  · exact f_5_takeMark_99 X hRf hRl hret rx2 hw hl h
  · refine lv_aload_n hx hb dX5_takeMark_58 rfl (lv_at hl 0 rfl) ?_
    refine yg_5_28 X hw dX5_takeMark_59 h (fun v17 rv17 h => ?_)
    refine k_if_le hx hb rv17 dX5_takeMark_62 (tgt := 99) rfl h (fun h => ?_) (fun h => ?_)
    · exact f_5_takeMark_99 X hRf hRl hret rx2 hw hl h
    · refine lv_aload_n hx hb dX5_takeMark_65 rfl (lv_at hl 0 rfl) ?_
      refine lv_dup hx hb dX5_takeMark_66 rfl ?_
      refine yg_5_28 X hw dX5_takeMark_67 h (fun v18 rv18 h => ?_)
      refine lv_iconst hx hb dX5_takeMark_70 (v := jI 1) rfl ?_
      refine k_isub hx hb dX5_takeMark_71 h (fun r19 h => ?_)
      refine yp_5_28 X hw r19 dX5_takeMark_72 h (fun H locs u hw h => ?_)
      refine lv_aload_n hx hb dX5_takeMark_75 rfl (lv_at hl 0 rfl) ?_
      refine yg_5_43 X hw dX5_takeMark_76 ?_
      refine lv_aload_n hx hb dX5_takeMark_79 rfl (lv_at hl 0 rfl) ?_
      refine yg_5_21 X hw dX5_takeMark_80 ?_
      refine lv_aload_n hx hb dX5_takeMark_83 rfl (lv_at hl 0 rfl) ?_
      refine yg_5_28 X hw dX5_takeMark_84 h (fun v20 rv20 h => ?_)
      refine yl_26 X hw rv20 dX5_takeMark_87 h (fun v21 rv21 h => ?_)
      refine lv_iload_n hx hb dX5_takeMark_88 rfl (lv_at hl 1 rfl) ?_
      refine ycSN (n := 2) (e_11_pairCell rv21 rx2 h) (host := "ProofHouse") rfl goodPair yD_11_pairCell.2 X hw (yNm_5_107 X.2.2.1) (ysI_in (List.mem_of_getElem? (i := 11) rfl)) statPair (Nat.le_trans (Nat.le_of_ble_eq_true rfl) hRf) (Nat.le_trans (Nat.le_of_ble_eq_true rfl) hRl) rfl hl.1 (Nat.le_of_ble_eq_true rfl) rfl dX5_takeMark_89 (fun v22 u H locs rv22 h hw => ?_)
      refine ycI (n := 1) (e_7_made rv22 h) 7 6 (r := (RX7, TX7, 9)) rfl yG_5_85 yD_7_made X hw rfl yGo_7 (Nat.le_trans (Nat.le_of_ble_eq_true rfl) hRf) (Nat.le_trans (Nat.le_of_ble_eq_true rfl) hRl) rfl hl.1 (Nat.le_of_ble_eq_true rfl) rfl dX5_takeMark_92 (fun v23 u H locs rv23 h hw => ?_)
      refine lv_istore_n hx hb dX5_takeMark_95 rfl hl (by decide) rfl (fun ls hl => ?_)
      have hl : lv_has ls 3 [(2, .int (jI v23)), (0, .ref (ad 0 4))] := hl
      refine lv_goto hx hb dX5_takeMark_96 (tgt := 42) rfl ?_
      exact hR42 _ _ H locs ls rv23 hw (lv_sub hl [1, 0] rfl) h

def v_5_takeMark (a0 : Int) (Q : iST → Prop) (u : iST) : Prop :=
  br (a0 ≠ 46) (
    br (a0 ≠ 41) (
      v_5_takeMark_117 Q a0 u) (
      rd (u.1 17) (fun v8 => 
      br (v8 ≤ 0) (
        v_5_takeMark_117 Q a0 u) (
        rd (u.1 17) (fun v9 => 
        bd v9 41 (rd (u.2.1 25 v9) (fun v10 => 
        v_5_takeMark_42 Q v10 u))))))) (
    rd (u.1 17) (fun v24 => 
    bd v24 41 (sw (iA u 23 v24 3) (fun u => 
    Q u))))
set_option maxRecDepth 20000 in
set_option maxHeartbeats 4000000 in
theorem f_5_takeMark_s (X : yX RX5 p m c cX5_takeMark 3 s args D ca ad A) (hRf : 2 ≤ R.frames) (hRl : 52 ≤ R.locals) {Q : iST → Prop} (hret : ∀ (u : iST) (H : Heap) (locs : List Loc) (ls : Array Slot) (pc : Nat), Q u → yW D ca A ad s H locs u → decode cX5_takeMark pc = .ok (.return_, 1) → W p l e R s m args below meth c H locs 0 0 Qf (F0 m pc ls [])) {a0 : Int} (ra0 : inR a0) (hw : yW D ca A ad s H locs u) (hl : lv_has ls 3 [(0, .ref (ad 0 4)), (1, .int (jI a0))]) (h : v_5_takeMark a0 Q u) : W p l e R s m args below meth c H locs 0 0 Qf (F0 m 0 ls []) := by
  have hx := X.1.1
  have hb := X.1.2.1
  unfold v_5_takeMark at h
  refine lv_iload_n hx hb dX5_takeMark_0 rfl (lv_at hl 1 rfl) ?_
  refine lv_bipush hx hb dX5_takeMark_1 (v := jI 46) rfl ?_
  refine k_icmp_ne hx hb ra0 (by decide) dX5_takeMark_3 (tgt := 19) rfl h (fun h => ?_) (fun h => ?_)
  · refine lv_iload_n hx hb dX5_takeMark_19 rfl (lv_at hl 1 rfl) ?_
    refine lv_bipush hx hb dX5_takeMark_20 (v := jI 41) rfl ?_
    refine k_icmp_ne hx hb ra0 (by decide) dX5_takeMark_22 (tgt := 117) rfl h (fun h => ?_) (fun h => ?_)
    · exact f_5_takeMark_117 X hRf hRl hret ra0 hw hl h
    · refine lv_aload_n hx hb dX5_takeMark_25 rfl (lv_at hl 0 rfl) ?_
      refine yg_5_24 X hw dX5_takeMark_26 h (fun v8 rv8 h => ?_)
      refine k_if_le hx hb rv8 dX5_takeMark_29 (tgt := 117) rfl h (fun h => ?_) (fun h => ?_)
      · exact f_5_takeMark_117 X hRf hRl hret ra0 hw hl h
      · refine lv_aload_n hx hb dX5_takeMark_32 rfl (lv_at hl 0 rfl) ?_
        refine yg_5_18 X hw dX5_takeMark_33 ?_
        refine lv_aload_n hx hb dX5_takeMark_36 rfl (lv_at hl 0 rfl) ?_
        refine yg_5_24 X hw dX5_takeMark_37 h (fun v9 rv9 h => ?_)
        refine yl_25 X hw rv9 dX5_takeMark_40 h (fun v10 rv10 h => ?_)
        refine lv_istore_n hx hb dX5_takeMark_41 rfl hl (by decide) rfl (fun ls hl => ?_)
        have hl : lv_has ls 3 [(2, .int (jI v10)), (0, .ref (ad 0 4)), (1, .int (jI a0))] := hl
        exact f_5_takeMark_42 X hRf hRl hret rv10 hw (lv_sub hl [1, 0] rfl) h
  · refine lv_aload_n hx hb dX5_takeMark_6 rfl (lv_at hl 0 rfl) ?_
    refine yg_5_11 X hw dX5_takeMark_7 ?_
    refine lv_aload_n hx hb dX5_takeMark_10 rfl (lv_at hl 0 rfl) ?_
    refine yg_5_24 X hw dX5_takeMark_11 h (fun v24 rv24 h => ?_)
    refine lv_iconst hx hb dX5_takeMark_14 (v := jI 3) rfl ?_
    refine yt_23 X hw rv24 (by decide) dX5_takeMark_15 h (fun H locs u hw h => ?_)
    refine lv_goto hx hb dX5_takeMark_16 (tgt := 185) rfl ?_
    exact hret _ _ _ _ _ h hw dX5_takeMark_185

end
theorem e_5_takeMark {l : Launch} {a0 : Int} (ra0 : inR a0) {Q : iST → Prop} {u : iST} (h : v_5_takeMark a0 Q u) : yMV l yX5_takeMark (.code yX5_takeMark cX5_takeMark 3 none :: wsN) { frames := 2, cells := 0, slots := 0, locals := 52 } (fun ad => [.ref (ad 0 4), .int (jI a0)]) Q u := yMV_of (own := RX5) rfl (by decide +kernel) (fun _ => Nat.le_of_ble_eq_true rfl) (fun X hRf hRl hret hw hl => f_5_takeMark_s X hRf hRl hret ra0 hw hl h)

/-! ProofHouse$Reader.takeWord -/
theorem dX5_takeWord_0 : decode cX5_takeWord 0 = .ok (.aload_n 1, 1) := by decide +kernel
theorem dX5_takeWord_1 : decode cX5_takeWord 1 = .ok (.iload_n 2, 1) := by decide +kernel
theorem dX5_takeWord_2 : decode cX5_takeWord 2 = .ok (.caload, 1) := by decide +kernel
theorem dX5_takeWord_3 : decode cX5_takeWord 3 = .ok (.istore 4, 2) := by decide +kernel
theorem dX5_takeWord_5 : decode cX5_takeWord 5 = .ok (.aload_n 0, 1) := by decide +kernel
theorem dX5_takeWord_6 : decode cX5_takeWord 6 = .ok (.aload_n 1, 1) := by decide +kernel
theorem dX5_takeWord_7 : decode cX5_takeWord 7 = .ok (.iload_n 2, 1) := by decide +kernel
theorem dX5_takeWord_8 : decode cX5_takeWord 8 = .ok (.iload_n 3, 1) := by decide +kernel
theorem dX5_takeWord_9 : decode cX5_takeWord 9 = .ok (.invokevirtual 72, 3) := by decide +kernel
theorem dX5_takeWord_12 : decode cX5_takeWord 12 = .ok (.istore 5, 2) := by decide +kernel
theorem dX5_takeWord_14 : decode cX5_takeWord 14 = .ok (.iload 5, 2) := by decide +kernel
theorem dX5_takeWord_16 : decode cX5_takeWord 16 = .ok (.iload_n 2, 1) := by decide +kernel
theorem dX5_takeWord_17 : decode cX5_takeWord 17 = .ok (.if_icmp .le 7, 3) := by decide +kernel
theorem dX5_takeWord_20 : decode cX5_takeWord 20 = .ok (.iconst 1, 1) := by decide +kernel
theorem dX5_takeWord_21 : decode cX5_takeWord 21 = .ok (.goto 4, 3) := by decide +kernel
theorem dX5_takeWord_24 : decode cX5_takeWord 24 = .ok (.iconst 0, 1) := by decide +kernel
theorem dX5_takeWord_25 : decode cX5_takeWord 25 = .ok (.istore 6, 2) := by decide +kernel
theorem dX5_takeWord_27 : decode cX5_takeWord 27 = .ok (.iload 4, 2) := by decide +kernel
theorem dX5_takeWord_29 : decode cX5_takeWord 29 = .ok (.bipush 40, 2) := by decide +kernel
theorem dX5_takeWord_31 : decode cX5_takeWord 31 = .ok (.if_icmp .eq 10, 3) := by decide +kernel
theorem dX5_takeWord_34 : decode cX5_takeWord 34 = .ok (.iload 4, 2) := by decide +kernel
theorem dX5_takeWord_36 : decode cX5_takeWord 36 = .ok (.bipush 39, 2) := by decide +kernel
theorem dX5_takeWord_38 : decode cX5_takeWord 38 = .ok (.if_icmp .ne 7, 3) := by decide +kernel
theorem dX5_takeWord_41 : decode cX5_takeWord 41 = .ok (.iconst 1, 1) := by decide +kernel
theorem dX5_takeWord_42 : decode cX5_takeWord 42 = .ok (.goto 4, 3) := by decide +kernel
theorem dX5_takeWord_45 : decode cX5_takeWord 45 = .ok (.iconst 0, 1) := by decide +kernel
theorem dX5_takeWord_46 : decode cX5_takeWord 46 = .ok (.istore 7, 2) := by decide +kernel
theorem dX5_takeWord_48 : decode cX5_takeWord 48 = .ok (.iload 6, 2) := by decide +kernel
theorem dX5_takeWord_50 : decode cX5_takeWord 50 = .ok (.ifCond .eq 14, 3) := by decide +kernel
theorem dX5_takeWord_53 : decode cX5_takeWord 53 = .ok (.aload_n 0, 1) := by decide +kernel
theorem dX5_takeWord_54 : decode cX5_takeWord 54 = .ok (.aload_n 1, 1) := by decide +kernel
theorem dX5_takeWord_55 : decode cX5_takeWord 55 = .ok (.iload_n 2, 1) := by decide +kernel
theorem dX5_takeWord_56 : decode cX5_takeWord 56 = .ok (.iload 5, 2) := by decide +kernel
theorem dX5_takeWord_58 : decode cX5_takeWord 58 = .ok (.invokevirtual 75, 3) := by decide +kernel
theorem dX5_takeWord_61 : decode cX5_takeWord 61 = .ok (.goto 6, 3) := by decide +kernel
theorem dX5_takeWord_64 : decode cX5_takeWord 64 = .ok (.ldc2_w 79, 3) := by decide +kernel
theorem dX5_takeWord_67 : decode cX5_takeWord 67 = .ok (.lstore 8, 2) := by decide +kernel
theorem dX5_takeWord_69 : decode cX5_takeWord 69 = .ok (.iload 6, 2) := by decide +kernel
theorem dX5_takeWord_71 : decode cX5_takeWord 71 = .ok (.ifCond .ne 31, 3) := by decide +kernel
theorem dX5_takeWord_74 : decode cX5_takeWord 74 = .ok (.iload 7, 2) := by decide +kernel
theorem dX5_takeWord_76 : decode cX5_takeWord 76 = .ok (.ifCond .ne 26, 3) := by decide +kernel
theorem dX5_takeWord_79 : decode cX5_takeWord 79 = .ok (.iload 4, 2) := by decide +kernel
theorem dX5_takeWord_81 : decode cX5_takeWord 81 = .ok (.bipush 41, 2) := by decide +kernel
theorem dX5_takeWord_83 : decode cX5_takeWord 83 = .ok (.if_icmp .eq 19, 3) := by decide +kernel
theorem dX5_takeWord_86 : decode cX5_takeWord 86 = .ok (.iload 4, 2) := by decide +kernel
theorem dX5_takeWord_88 : decode cX5_takeWord 88 = .ok (.bipush 46, 2) := by decide +kernel
theorem dX5_takeWord_90 : decode cX5_takeWord 90 = .ok (.if_icmp .eq 12, 3) := by decide +kernel
theorem dX5_takeWord_93 : decode cX5_takeWord 93 = .ok (.aload_n 0, 1) := by decide +kernel
theorem dX5_takeWord_94 : decode cX5_takeWord 94 = .ok (.iconst 1, 1) := by decide +kernel
theorem dX5_takeWord_95 : decode cX5_takeWord 95 = .ok (.iload_n 2, 1) := by decide +kernel
theorem dX5_takeWord_96 : decode cX5_takeWord 96 = .ok (.invokevirtual 60, 3) := by decide +kernel
theorem dX5_takeWord_99 : decode cX5_takeWord 99 = .ok (.goto 121, 3) := by decide +kernel
theorem dX5_takeWord_102 : decode cX5_takeWord 102 = .ok (.iload 6, 2) := by decide +kernel
theorem dX5_takeWord_104 : decode cX5_takeWord 104 = .ok (.ifCond .eq 19, 3) := by decide +kernel
theorem dX5_takeWord_107 : decode cX5_takeWord 107 = .ok (.lload 8, 2) := by decide +kernel
theorem dX5_takeWord_109 : decode cX5_takeWord 109 = .ok (.lconst 0, 1) := by decide +kernel
theorem dX5_takeWord_110 : decode cX5_takeWord 110 = .ok (.lcmp, 1) := by decide +kernel
theorem dX5_takeWord_111 : decode cX5_takeWord 111 = .ok (.ifCond .ge 12, 3) := by decide +kernel
theorem dX5_takeWord_114 : decode cX5_takeWord 114 = .ok (.aload_n 0, 1) := by decide +kernel
theorem dX5_takeWord_115 : decode cX5_takeWord 115 = .ok (.iconst 2, 1) := by decide +kernel
theorem dX5_takeWord_116 : decode cX5_takeWord 116 = .ok (.iload_n 2, 1) := by decide +kernel
theorem dX5_takeWord_117 : decode cX5_takeWord 117 = .ok (.invokevirtual 60, 3) := by decide +kernel
theorem dX5_takeWord_120 : decode cX5_takeWord 120 = .ok (.goto 100, 3) := by decide +kernel
theorem dX5_takeWord_123 : decode cX5_takeWord 123 = .ok (.aload_n 0, 1) := by decide +kernel
theorem dX5_takeWord_124 : decode cX5_takeWord 124 = .ok (.iload 4, 2) := by decide +kernel
theorem dX5_takeWord_126 : decode cX5_takeWord 126 = .ok (.invokevirtual 81, 3) := by decide +kernel
theorem dX5_takeWord_129 : decode cX5_takeWord 129 = .ok (.ifCond .ne 12, 3) := by decide +kernel
theorem dX5_takeWord_132 : decode cX5_takeWord 132 = .ok (.aload_n 0, 1) := by decide +kernel
theorem dX5_takeWord_133 : decode cX5_takeWord 133 = .ok (.iconst 3, 1) := by decide +kernel
theorem dX5_takeWord_134 : decode cX5_takeWord 134 = .ok (.iload_n 2, 1) := by decide +kernel
theorem dX5_takeWord_135 : decode cX5_takeWord 135 = .ok (.invokevirtual 60, 3) := by decide +kernel
theorem dX5_takeWord_138 : decode cX5_takeWord 138 = .ok (.goto 82, 3) := by decide +kernel
theorem dX5_takeWord_141 : decode cX5_takeWord 141 = .ok (.iload 7, 2) := by decide +kernel
theorem dX5_takeWord_143 : decode cX5_takeWord 143 = .ok (.ifCond .eq 21, 3) := by decide +kernel
theorem dX5_takeWord_146 : decode cX5_takeWord 146 = .ok (.aload_n 0, 1) := by decide +kernel
theorem dX5_takeWord_147 : decode cX5_takeWord 147 = .ok (.getfield 24, 3) := by decide +kernel
theorem dX5_takeWord_150 : decode cX5_takeWord 150 = .ok (.bipush 40, 2) := by decide +kernel
theorem dX5_takeWord_152 : decode cX5_takeWord 152 = .ok (.if_icmp .lt 12, 3) := by decide +kernel
theorem dX5_takeWord_155 : decode cX5_takeWord 155 = .ok (.aload_n 0, 1) := by decide +kernel
theorem dX5_takeWord_156 : decode cX5_takeWord 156 = .ok (.iconst 4, 1) := by decide +kernel
theorem dX5_takeWord_157 : decode cX5_takeWord 157 = .ok (.iload_n 2, 1) := by decide +kernel
theorem dX5_takeWord_158 : decode cX5_takeWord 158 = .ok (.invokevirtual 60, 3) := by decide +kernel
theorem dX5_takeWord_161 : decode cX5_takeWord 161 = .ok (.goto 59, 3) := by decide +kernel
theorem dX5_takeWord_164 : decode cX5_takeWord 164 = .ok (.aload_n 0, 1) := by decide +kernel
theorem dX5_takeWord_165 : decode cX5_takeWord 165 = .ok (.getfield 31, 3) := by decide +kernel
theorem dX5_takeWord_168 : decode cX5_takeWord 168 = .ok (.sipush 1000, 3) := by decide +kernel
theorem dX5_takeWord_171 : decode cX5_takeWord 171 = .ok (.if_icmp .lt 12, 3) := by decide +kernel
theorem dX5_takeWord_174 : decode cX5_takeWord 174 = .ok (.aload_n 0, 1) := by decide +kernel
theorem dX5_takeWord_175 : decode cX5_takeWord 175 = .ok (.iconst 5, 1) := by decide +kernel
theorem dX5_takeWord_176 : decode cX5_takeWord 176 = .ok (.iload_n 2, 1) := by decide +kernel
theorem dX5_takeWord_177 : decode cX5_takeWord 177 = .ok (.invokevirtual 60, 3) := by decide +kernel
theorem dX5_takeWord_180 : decode cX5_takeWord 180 = .ok (.goto 40, 3) := by decide +kernel
theorem dX5_takeWord_183 : decode cX5_takeWord 183 = .ok (.aload_n 0, 1) := by decide +kernel
theorem dX5_takeWord_184 : decode cX5_takeWord 184 = .ok (.dup, 1) := by decide +kernel
theorem dX5_takeWord_185 : decode cX5_takeWord 185 = .ok (.getfield 31, 3) := by decide +kernel
theorem dX5_takeWord_188 : decode cX5_takeWord 188 = .ok (.iconst 1, 1) := by decide +kernel
theorem dX5_takeWord_189 : decode cX5_takeWord 189 = .ok (.iadd, 1) := by decide +kernel
theorem dX5_takeWord_190 : decode cX5_takeWord 190 = .ok (.putfield 31, 3) := by decide +kernel
theorem dX5_takeWord_193 : decode cX5_takeWord 193 = .ok (.iload 6, 2) := by decide +kernel
theorem dX5_takeWord_195 : decode cX5_takeWord 195 = .ok (.ifCond .eq 19, 3) := by decide +kernel
theorem dX5_takeWord_198 : decode cX5_takeWord 198 = .ok (.aload_n 0, 1) := by decide +kernel
theorem dX5_takeWord_199 : decode cX5_takeWord 199 = .ok (.aload_n 0, 1) := by decide +kernel
theorem dX5_takeWord_200 : decode cX5_takeWord 200 = .ok (.getfield 43, 3) := by decide +kernel
theorem dX5_takeWord_203 : decode cX5_takeWord 203 = .ok (.lload 8, 2) := by decide +kernel
theorem dX5_takeWord_205 : decode cX5_takeWord 205 = .ok (.invokevirtual 85, 3) := by decide +kernel
theorem dX5_takeWord_208 : decode cX5_takeWord 208 = .ok (.invokevirtual 91, 3) := by decide +kernel
theorem dX5_takeWord_211 : decode cX5_takeWord 211 = .ok (.goto 9, 3) := by decide +kernel
theorem dX5_takeWord_214 : decode cX5_takeWord 214 = .ok (.aload_n 0, 1) := by decide +kernel
theorem dX5_takeWord_215 : decode cX5_takeWord 215 = .ok (.iload 4, 2) := by decide +kernel
theorem dX5_takeWord_217 : decode cX5_takeWord 217 = .ok (.invokevirtual 95, 3) := by decide +kernel
theorem dX5_takeWord_220 : decode cX5_takeWord 220 = .ok (.iload 5, 2) := by decide +kernel
theorem dX5_takeWord_222 : decode cX5_takeWord 222 = .ok (.ireturn, 1) := by decide +kernel

section
variable {p : Program} {l : Launch} {e : Env} {R : Room} {s : State} {m : MethodId} {args : Array Value} {below : List Frame} {meth : Method} {c : Code} {H : Heap} {locs : List Loc} {Qf : State → Prop}
variable {ls : Array Slot} {D : va_G} {ca : Nat → ClassId} {A : Nat → Prop} {ad : Nat → Nat → Nat} {u : iST}
def v_5_takeWord_164 (Q : Int → iST → Prop) (x2 : Int) (x4 : Int) (x5 : Int) (x6 : Int) (x8 : Int) (u : iST) : Prop :=
  rd (u.1 19) (fun v4 => 
  br (v4 < 1000) (
    rd (u.1 19) (fun v5 => 
    ov (v5 + 1) (
    sw (iI u 19 (v5 + 1)) (fun u => 
    br (x6 = 0) (
      v_5_takeMark x4 (fun u => 
      Q x5 u) u) (
      v_7_made x8 (fun v8 u => 
      v_5_deliver v8 (fun u => 
      Q x5 u) u) u))))) (
    v_5_refuse 5 x2 (fun u => 
    Q x5 u) u))
set_option maxRecDepth 20000 in
set_option maxHeartbeats 4000000 in
theorem f_5_takeWord_164 (X : yX RX5 p m c cX5_takeWord 10 s args D ca ad A) (hRf : 7 ≤ R.frames) (hRl : 232 ≤ R.locals) {Q : Int → iST → Prop} (hret : ∀ (v : Int) (u : iST) (H : Heap) (locs : List Loc) (ls : Array Slot) (pc : Nat), inR v → Q v u → yW D ca A ad s H locs u → decode cX5_takeWord pc = .ok (.ireturn, 1) → W p l e R s m args below meth c H locs 0 0 Qf (F0 m pc ls [.int (jI v)])) {x2 x4 x5 x6 x8 : Int} (rx2 : inR x2) (rx4 : inR x4) (rx5 : inR x5) (rx6 : inR x6) (rx8 : inL x8) (hw : yW D ca A ad s H locs u) (hl : lv_has ls 10 [(0, .ref (ad 0 4)), (2, .int (jI x2)), (4, .int (jI x4)), (5, .int (jI x5)), (6, .int (jI x6)), (8, .long (jL x8))]) (h : v_5_takeWord_164 Q x2 x4 x5 x6 x8 u) : W p l e R s m args below meth c H locs 0 0 Qf (F0 m 164 ls []) := by
  have hx := X.1.1
  have hb := X.1.2.1
  unfold v_5_takeWord_164 at h
  refine lv_aload_n hx hb dX5_takeWord_164 rfl (lv_at hl 0 rfl) ?_
  refine yg_5_31 X hw dX5_takeWord_165 h (fun v4 rv4 h => ?_)
  refine lv_sipush hx hb dX5_takeWord_168 (v := jI 1000) rfl ?_
  refine k_icmp_lt hx hb rv4 (by decide) dX5_takeWord_171 (tgt := 183) rfl h (fun h => ?_) (fun h => ?_)
  · refine lv_aload_n hx hb dX5_takeWord_183 rfl (lv_at hl 0 rfl) ?_
    refine lv_dup hx hb dX5_takeWord_184 rfl ?_
    refine yg_5_31 X hw dX5_takeWord_185 h (fun v5 rv5 h => ?_)
    refine lv_iconst hx hb dX5_takeWord_188 (v := jI 1) rfl ?_
    refine k_iadd hx hb dX5_takeWord_189 h (fun r6 h => ?_)
    refine yp_5_31 X hw r6 dX5_takeWord_190 h (fun H locs u hw h => ?_)
    refine lv_iload hx hb dX5_takeWord_193 (lv_at hl 4 rfl) ?_
    refine k_if_eq hx hb rx6 dX5_takeWord_195 (tgt := 214) rfl h (fun h => ?_) (fun h => ?_)
    · refine lv_aload_n hx hb dX5_takeWord_214 rfl (lv_at hl 0 rfl) ?_
      refine lv_iload hx hb dX5_takeWord_215 (lv_at hl 2 rfl) ?_
      refine ycV (n := 1) (e_5_takeMark rx4 h) 5 4 (r := (RX5, TX5, 11)) rfl yG_5_95 yD_5_takeMark X hw rfl yGo_5 (Nat.le_trans (Nat.le_of_ble_eq_true rfl) hRf) (Nat.le_trans (Nat.le_of_ble_eq_true rfl) hRl) rfl hl.1 (Nat.le_of_ble_eq_true rfl) rfl dX5_takeWord_217 (fun u H locs h hw => ?_)
      refine lv_iload hx hb dX5_takeWord_220 (lv_at hl 3 rfl) ?_
      exact hret _ _ _ _ _ _ rx5 h hw dX5_takeWord_222
    · refine lv_aload_n hx hb dX5_takeWord_198 rfl (lv_at hl 0 rfl) ?_
      refine lv_aload_n hx hb dX5_takeWord_199 rfl (lv_at hl 0 rfl) ?_
      refine yg_5_43 X hw dX5_takeWord_200 ?_
      refine lv_lload hx hb dX5_takeWord_203 (lv_at hl 5 rfl) ?_
      refine ycI (n := 1) (e_7_made rx8 h) 7 6 (r := (RX7, TX7, 9)) rfl yG_5_85 yD_7_made X hw rfl yGo_7 (Nat.le_trans (Nat.le_of_ble_eq_true rfl) hRf) (Nat.le_trans (Nat.le_of_ble_eq_true rfl) hRl) rfl hl.1 (Nat.le_of_ble_eq_true rfl) rfl dX5_takeWord_205 (fun v8 u H locs rv8 h hw => ?_)
      refine ycV (n := 1) (e_5_deliver rv8 h) 5 4 (r := (RX5, TX5, 11)) rfl yG_5_91 yD_5_deliver X hw rfl yGo_5 (Nat.le_trans (Nat.le_of_ble_eq_true rfl) hRf) (Nat.le_trans (Nat.le_of_ble_eq_true rfl) hRl) rfl hl.1 (Nat.le_of_ble_eq_true rfl) rfl dX5_takeWord_208 (fun u H locs h hw => ?_)
      refine lv_goto hx hb dX5_takeWord_211 (tgt := 220) rfl ?_
      refine lv_iload hx hb dX5_takeWord_220 (lv_at hl 3 rfl) ?_
      exact hret _ _ _ _ _ _ rx5 h hw dX5_takeWord_222
  · refine lv_aload_n hx hb dX5_takeWord_174 rfl (lv_at hl 0 rfl) ?_
    refine lv_iconst hx hb dX5_takeWord_175 (v := jI 5) rfl ?_
    refine lv_iload_n hx hb dX5_takeWord_176 rfl (lv_at hl 1 rfl) ?_
    refine ycV (n := 2) (e_5_refuse (by decide) rx2 h) 5 4 (r := (RX5, TX5, 11)) rfl yG_5_60 yD_5_refuse X hw rfl yGo_5 (Nat.le_trans (Nat.le_of_ble_eq_true rfl) hRf) (Nat.le_trans (Nat.le_of_ble_eq_true rfl) hRl) rfl hl.1 (Nat.le_of_ble_eq_true rfl) rfl dX5_takeWord_177 (fun u H locs h hw => ?_)
    refine lv_goto hx hb dX5_takeWord_180 (tgt := 220) rfl ?_
    refine lv_iload hx hb dX5_takeWord_220 (lv_at hl 3 rfl) ?_
    exact hret _ _ _ _ _ _ rx5 h hw dX5_takeWord_222

def v_5_takeWord_123 (Q : Int → iST → Prop) (x2 : Int) (x4 : Int) (x5 : Int) (x6 : Int) (x7 : Int) (x8 : Int) (u : iST) : Prop :=
  v_5_canStand x4 (fun v3 u => 
  br (v3 ≠ 0) (
    br (x7 = 0) (
      v_5_takeWord_164 Q x2 x4 x5 x6 x8 u) (
      rd (u.1 17) (fun v11 => 
      br (v11 < 40) (
        v_5_takeWord_164 Q x2 x4 x5 x6 x8 u) (
        v_5_refuse 4 x2 (fun u => 
        Q x5 u) u)))) (
    v_5_refuse 3 x2 (fun u => 
    Q x5 u) u)) u
set_option maxRecDepth 20000 in
set_option maxHeartbeats 4000000 in
theorem f_5_takeWord_123 (X : yX RX5 p m c cX5_takeWord 10 s args D ca ad A) (hRf : 7 ≤ R.frames) (hRl : 232 ≤ R.locals) {Q : Int → iST → Prop} (hret : ∀ (v : Int) (u : iST) (H : Heap) (locs : List Loc) (ls : Array Slot) (pc : Nat), inR v → Q v u → yW D ca A ad s H locs u → decode cX5_takeWord pc = .ok (.ireturn, 1) → W p l e R s m args below meth c H locs 0 0 Qf (F0 m pc ls [.int (jI v)])) {x2 x4 x5 x6 x7 x8 : Int} (rx2 : inR x2) (rx4 : inR x4) (rx5 : inR x5) (rx6 : inR x6) (rx7 : inR x7) (rx8 : inL x8) (hw : yW D ca A ad s H locs u) (hl : lv_has ls 10 [(0, .ref (ad 0 4)), (2, .int (jI x2)), (4, .int (jI x4)), (5, .int (jI x5)), (6, .int (jI x6)), (7, .int (jI x7)), (8, .long (jL x8))]) (h : v_5_takeWord_123 Q x2 x4 x5 x6 x7 x8 u) : W p l e R s m args below meth c H locs 0 0 Qf (F0 m 123 ls []) := by
  have hx := X.1.1
  have hb := X.1.2.1
  unfold v_5_takeWord_123 at h
  refine lv_aload_n hx hb dX5_takeWord_123 rfl (lv_at hl 0 rfl) ?_
  refine lv_iload hx hb dX5_takeWord_124 (lv_at hl 2 rfl) ?_
  refine ycI (n := 1) (e_5_canStand rx4 h) 5 4 (r := (RX5, TX5, 11)) rfl yG_5_81 yD_5_canStand X hw rfl yGo_5 (Nat.le_trans (Nat.le_of_ble_eq_true rfl) hRf) (Nat.le_trans (Nat.le_of_ble_eq_true rfl) hRl) rfl hl.1 (Nat.le_of_ble_eq_true rfl) rfl dX5_takeWord_126 (fun v3 u H locs rv3 h hw => ?_)
  refine k_if_ne hx hb rv3 dX5_takeWord_129 (tgt := 141) rfl h (fun h => ?_) (fun h => ?_)
  · refine lv_iload hx hb dX5_takeWord_141 (lv_at hl 5 rfl) ?_
    refine k_if_eq hx hb rx7 dX5_takeWord_143 (tgt := 164) rfl h (fun h => ?_) (fun h => ?_)
    · exact f_5_takeWord_164 X hRf hRl hret rx2 rx4 rx5 rx6 rx8 hw (lv_sub hl [0, 1, 2, 3, 4, 6] rfl) h
    · refine lv_aload_n hx hb dX5_takeWord_146 rfl (lv_at hl 0 rfl) ?_
      refine yg_5_24 X hw dX5_takeWord_147 h (fun v11 rv11 h => ?_)
      refine lv_bipush hx hb dX5_takeWord_150 (v := jI 40) rfl ?_
      refine k_icmp_lt hx hb rv11 (by decide) dX5_takeWord_152 (tgt := 164) rfl h (fun h => ?_) (fun h => ?_)
      · exact f_5_takeWord_164 X hRf hRl hret rx2 rx4 rx5 rx6 rx8 hw (lv_sub hl [0, 1, 2, 3, 4, 6] rfl) h
      · refine lv_aload_n hx hb dX5_takeWord_155 rfl (lv_at hl 0 rfl) ?_
        refine lv_iconst hx hb dX5_takeWord_156 (v := jI 4) rfl ?_
        refine lv_iload_n hx hb dX5_takeWord_157 rfl (lv_at hl 1 rfl) ?_
        refine ycV (n := 2) (e_5_refuse (by decide) rx2 h) 5 4 (r := (RX5, TX5, 11)) rfl yG_5_60 yD_5_refuse X hw rfl yGo_5 (Nat.le_trans (Nat.le_of_ble_eq_true rfl) hRf) (Nat.le_trans (Nat.le_of_ble_eq_true rfl) hRl) rfl hl.1 (Nat.le_of_ble_eq_true rfl) rfl dX5_takeWord_158 (fun u H locs h hw => ?_)
        refine lv_goto hx hb dX5_takeWord_161 (tgt := 220) rfl ?_
        refine lv_iload hx hb dX5_takeWord_220 (lv_at hl 3 rfl) ?_
        exact hret _ _ _ _ _ _ rx5 h hw dX5_takeWord_222
  · refine lv_aload_n hx hb dX5_takeWord_132 rfl (lv_at hl 0 rfl) ?_
    refine lv_iconst hx hb dX5_takeWord_133 (v := jI 3) rfl ?_
    refine lv_iload_n hx hb dX5_takeWord_134 rfl (lv_at hl 1 rfl) ?_
    refine ycV (n := 2) (e_5_refuse (by decide) rx2 h) 5 4 (r := (RX5, TX5, 11)) rfl yG_5_60 yD_5_refuse X hw rfl yGo_5 (Nat.le_trans (Nat.le_of_ble_eq_true rfl) hRf) (Nat.le_trans (Nat.le_of_ble_eq_true rfl) hRl) rfl hl.1 (Nat.le_of_ble_eq_true rfl) rfl dX5_takeWord_135 (fun u H locs h hw => ?_)
    refine lv_goto hx hb dX5_takeWord_138 (tgt := 220) rfl ?_
    refine lv_iload hx hb dX5_takeWord_220 (lv_at hl 3 rfl) ?_
    exact hret _ _ _ _ _ _ rx5 h hw dX5_takeWord_222

def v_5_takeWord_102 (Q : Int → iST → Prop) (x2 : Int) (x4 : Int) (x5 : Int) (x6 : Int) (x7 : Int) (x8 : Int) (u : iST) : Prop :=
  br (x6 = 0) (
    v_5_takeWord_123 Q x2 x4 x5 x6 x7 x8 u) (
    br (0 ≤ x8) (
      v_5_takeWord_123 Q x2 x4 x5 x6 x7 x8 u) (
      v_5_refuse 2 x2 (fun u => 
      Q x5 u) u))
set_option maxRecDepth 20000 in
set_option maxHeartbeats 4000000 in
theorem f_5_takeWord_102 (X : yX RX5 p m c cX5_takeWord 10 s args D ca ad A) (hRf : 7 ≤ R.frames) (hRl : 232 ≤ R.locals) {Q : Int → iST → Prop} (hret : ∀ (v : Int) (u : iST) (H : Heap) (locs : List Loc) (ls : Array Slot) (pc : Nat), inR v → Q v u → yW D ca A ad s H locs u → decode cX5_takeWord pc = .ok (.ireturn, 1) → W p l e R s m args below meth c H locs 0 0 Qf (F0 m pc ls [.int (jI v)])) {x2 x4 x5 x6 x7 x8 : Int} (rx2 : inR x2) (rx4 : inR x4) (rx5 : inR x5) (rx6 : inR x6) (rx7 : inR x7) (rx8 : inL x8) (hw : yW D ca A ad s H locs u) (hl : lv_has ls 10 [(0, .ref (ad 0 4)), (2, .int (jI x2)), (4, .int (jI x4)), (5, .int (jI x5)), (6, .int (jI x6)), (7, .int (jI x7)), (8, .long (jL x8))]) (h : v_5_takeWord_102 Q x2 x4 x5 x6 x7 x8 u) : W p l e R s m args below meth c H locs 0 0 Qf (F0 m 102 ls []) := by
  have hx := X.1.1
  have hb := X.1.2.1
  unfold v_5_takeWord_102 at h
  refine lv_iload hx hb dX5_takeWord_102 (lv_at hl 4 rfl) ?_
  refine k_if_eq hx hb rx6 dX5_takeWord_104 (tgt := 123) rfl h (fun h => ?_) (fun h => ?_)
  · exact f_5_takeWord_123 X hRf hRl hret rx2 rx4 rx5 rx6 rx7 rx8 hw hl h
  · refine lv_lload hx hb dX5_takeWord_107 (lv_at hl 6 rfl) ?_
    refine lv_lconst hx hb dX5_takeWord_109 (v := jL 0) rfl ?_
    refine k_lcmp_ge hx hb rx8 (by decide) dX5_takeWord_110 dX5_takeWord_111 (tgt := 123) rfl h (fun h => ?_) (fun h => ?_)
    · exact f_5_takeWord_123 X hRf hRl hret rx2 rx4 rx5 rx6 rx7 rx8 hw hl h
    · refine lv_aload_n hx hb dX5_takeWord_114 rfl (lv_at hl 0 rfl) ?_
      refine lv_iconst hx hb dX5_takeWord_115 (v := jI 2) rfl ?_
      refine lv_iload_n hx hb dX5_takeWord_116 rfl (lv_at hl 1 rfl) ?_
      refine ycV (n := 2) (e_5_refuse (by decide) rx2 h) 5 4 (r := (RX5, TX5, 11)) rfl yG_5_60 yD_5_refuse X hw rfl yGo_5 (Nat.le_trans (Nat.le_of_ble_eq_true rfl) hRf) (Nat.le_trans (Nat.le_of_ble_eq_true rfl) hRl) rfl hl.1 (Nat.le_of_ble_eq_true rfl) rfl dX5_takeWord_117 (fun u H locs h hw => ?_)
      refine lv_goto hx hb dX5_takeWord_120 (tgt := 220) rfl ?_
      refine lv_iload hx hb dX5_takeWord_220 (lv_at hl 3 rfl) ?_
      exact hret _ _ _ _ _ _ rx5 h hw dX5_takeWord_222

def v_5_takeWord_67 (Q : Int → iST → Prop) (x2 : Int) (x4 : Int) (x5 : Int) (x6 : Int) (x7 : Int) (y0 : Int) (u : iST) : Prop :=
  br (x6 ≠ 0) (
    v_5_takeWord_102 Q x2 x4 x5 x6 x7 y0 u) (
    br (x7 ≠ 0) (
      v_5_takeWord_102 Q x2 x4 x5 x6 x7 y0 u) (
      br (x4 = 41) (
        v_5_takeWord_102 Q x2 x4 x5 x6 x7 y0 u) (
        br (x4 = 46) (
          v_5_takeWord_102 Q x2 x4 x5 x6 x7 y0 u) (
          v_5_refuse 1 x2 (fun u => 
          Q x5 u) u))))
set_option maxRecDepth 20000 in
set_option maxHeartbeats 4000000 in
theorem f_5_takeWord_67 (X : yX RX5 p m c cX5_takeWord 10 s args D ca ad A) (hRf : 7 ≤ R.frames) (hRl : 232 ≤ R.locals) {Q : Int → iST → Prop} (hret : ∀ (v : Int) (u : iST) (H : Heap) (locs : List Loc) (ls : Array Slot) (pc : Nat), inR v → Q v u → yW D ca A ad s H locs u → decode cX5_takeWord pc = .ok (.ireturn, 1) → W p l e R s m args below meth c H locs 0 0 Qf (F0 m pc ls [.int (jI v)])) {x2 x4 x5 x6 x7 y0 : Int} (rx2 : inR x2) (rx4 : inR x4) (rx5 : inR x5) (rx6 : inR x6) (rx7 : inR x7) (ry0 : inL y0) (hw : yW D ca A ad s H locs u) (hl : lv_has ls 10 [(0, .ref (ad 0 4)), (2, .int (jI x2)), (4, .int (jI x4)), (5, .int (jI x5)), (6, .int (jI x6)), (7, .int (jI x7))]) (h : v_5_takeWord_67 Q x2 x4 x5 x6 x7 y0 u) : W p l e R s m args below meth c H locs 0 0 Qf (F0 m 67 ls [.long (jL y0)]) := by
  have hx := X.1.1
  have hb := X.1.2.1
  unfold v_5_takeWord_67 at h
  refine lv_lstore hx hb dX5_takeWord_67 hl (by decide) rfl (fun ls hl => ?_)
  have hl : lv_has ls 10 [(8, .long (jL y0)), (0, .ref (ad 0 4)), (2, .int (jI x2)), (4, .int (jI x4)), (5, .int (jI x5)), (6, .int (jI x6)), (7, .int (jI x7))] := hl
  refine lv_iload hx hb dX5_takeWord_69 (lv_at hl 5 rfl) ?_
  refine k_if_ne hx hb rx6 dX5_takeWord_71 (tgt := 102) rfl h (fun h => ?_) (fun h => ?_)
  · exact f_5_takeWord_102 X hRf hRl hret rx2 rx4 rx5 rx6 rx7 ry0 hw (lv_sub hl [1, 2, 3, 4, 5, 6, 0] rfl) h
  · refine lv_iload hx hb dX5_takeWord_74 (lv_at hl 6 rfl) ?_
    refine k_if_ne hx hb rx7 dX5_takeWord_76 (tgt := 102) rfl h (fun h => ?_) (fun h => ?_)
    · exact f_5_takeWord_102 X hRf hRl hret rx2 rx4 rx5 rx6 rx7 ry0 hw (lv_sub hl [1, 2, 3, 4, 5, 6, 0] rfl) h
    · refine lv_iload hx hb dX5_takeWord_79 (lv_at hl 3 rfl) ?_
      refine lv_bipush hx hb dX5_takeWord_81 (v := jI 41) rfl ?_
      refine k_icmp_eq hx hb rx4 (by decide) dX5_takeWord_83 (tgt := 102) rfl h (fun h => ?_) (fun h => ?_)
      · exact f_5_takeWord_102 X hRf hRl hret rx2 rx4 rx5 rx6 rx7 ry0 hw (lv_sub hl [1, 2, 3, 4, 5, 6, 0] rfl) h
      · refine lv_iload hx hb dX5_takeWord_86 (lv_at hl 3 rfl) ?_
        refine lv_bipush hx hb dX5_takeWord_88 (v := jI 46) rfl ?_
        refine k_icmp_eq hx hb rx4 (by decide) dX5_takeWord_90 (tgt := 102) rfl h (fun h => ?_) (fun h => ?_)
        · exact f_5_takeWord_102 X hRf hRl hret rx2 rx4 rx5 rx6 rx7 ry0 hw (lv_sub hl [1, 2, 3, 4, 5, 6, 0] rfl) h
        · refine lv_aload_n hx hb dX5_takeWord_93 rfl (lv_at hl 1 rfl) ?_
          refine lv_iconst hx hb dX5_takeWord_94 (v := jI 1) rfl ?_
          refine lv_iload_n hx hb dX5_takeWord_95 rfl (lv_at hl 2 rfl) ?_
          refine ycV (n := 2) (e_5_refuse (by decide) rx2 h) 5 4 (r := (RX5, TX5, 11)) rfl yG_5_60 yD_5_refuse X hw rfl yGo_5 (Nat.le_trans (Nat.le_of_ble_eq_true rfl) hRf) (Nat.le_trans (Nat.le_of_ble_eq_true rfl) hRl) rfl hl.1 (Nat.le_of_ble_eq_true rfl) rfl dX5_takeWord_96 (fun u H locs h hw => ?_)
          refine lv_goto hx hb dX5_takeWord_99 (tgt := 220) rfl ?_
          refine lv_iload hx hb dX5_takeWord_220 (lv_at hl 4 rfl) ?_
          exact hret _ _ _ _ _ _ rx5 h hw dX5_takeWord_222

def v_5_takeWord_46 (Q : Int → iST → Prop) (x2 : Int) (x4 : Int) (x5 : Int) (x6 : Int) (y0 : Int) (u : iST) : Prop :=
  br (x6 = 0) (
    v_5_takeWord_67 Q x2 x4 x5 x6 y0 (-1) u) (
    v_5_atomCell x2 x5 (fun v16 u => 
    v_5_takeWord_67 Q x2 x4 x5 x6 y0 v16 u) u)
set_option maxRecDepth 20000 in
set_option maxHeartbeats 4000000 in
theorem f_5_takeWord_46 (X : yX RX5 p m c cX5_takeWord 10 s args D ca ad A) (hRf : 7 ≤ R.frames) (hRl : 232 ≤ R.locals) {Q : Int → iST → Prop} (hret : ∀ (v : Int) (u : iST) (H : Heap) (locs : List Loc) (ls : Array Slot) (pc : Nat), inR v → Q v u → yW D ca A ad s H locs u → decode cX5_takeWord pc = .ok (.ireturn, 1) → W p l e R s m args below meth c H locs 0 0 Qf (F0 m pc ls [.int (jI v)])) {x2 x4 x5 x6 y0 : Int} (rx2 : inR x2) (rx4 : inR x4) (rx5 : inR x5) (rx6 : inR x6) (ry0 : inR y0) (hw : yW D ca A ad s H locs u) (hl : lv_has ls 10 [(0, .ref (ad 0 4)), (1, .ref (ad 1 44)), (2, .int (jI x2)), (4, .int (jI x4)), (5, .int (jI x5)), (6, .int (jI x6))]) (h : v_5_takeWord_46 Q x2 x4 x5 x6 y0 u) : W p l e R s m args below meth c H locs 0 0 Qf (F0 m 46 ls [.int (jI y0)]) := by
  have hx := X.1.1
  have hb := X.1.2.1
  unfold v_5_takeWord_46 at h
  refine lv_istore hx hb dX5_takeWord_46 hl (by decide) rfl (fun ls hl => ?_)
  have hl : lv_has ls 10 [(7, .int (jI y0)), (0, .ref (ad 0 4)), (1, .ref (ad 1 44)), (2, .int (jI x2)), (4, .int (jI x4)), (5, .int (jI x5)), (6, .int (jI x6))] := hl
  refine lv_iload hx hb dX5_takeWord_48 (lv_at hl 6 rfl) ?_
  refine k_if_eq hx hb rx6 dX5_takeWord_50 (tgt := 64) rfl h (fun h => ?_) (fun h => ?_)
  · refine yld2 79 yK_5_79 X dX5_takeWord_64 ?_
    exact f_5_takeWord_67 X hRf hRl hret rx2 rx4 rx5 rx6 ry0 (by decide) hw (lv_sub hl [1, 3, 4, 5, 6, 0] rfl) h
  · refine lv_aload_n hx hb dX5_takeWord_53 rfl (lv_at hl 1 rfl) ?_
    refine lv_aload_n hx hb dX5_takeWord_54 rfl (lv_at hl 2 rfl) ?_
    refine lv_iload_n hx hb dX5_takeWord_55 rfl (lv_at hl 3 rfl) ?_
    refine lv_iload hx hb dX5_takeWord_56 (lv_at hl 5 rfl) ?_
    refine ycL (n := 3) (e_5_atomCell rx2 rx5 h) 5 4 (r := (RX5, TX5, 11)) rfl yG_5_75 yD_5_atomCell X hw rfl yGo_5 (Nat.le_trans (Nat.le_of_ble_eq_true rfl) hRf) (Nat.le_trans (Nat.le_of_ble_eq_true rfl) hRl) rfl hl.1 (Nat.le_of_ble_eq_true rfl) rfl dX5_takeWord_58 (fun v16 u H locs rv16 h hw => ?_)
    refine lv_goto hx hb dX5_takeWord_61 (tgt := 67) rfl ?_
    exact f_5_takeWord_67 X hRf hRl hret rx2 rx4 rx5 rx6 ry0 rv16 hw (lv_sub hl [1, 3, 4, 5, 6, 0] rfl) h

def v_5_takeWord_41 (Q : Int → iST → Prop) (x2 : Int) (x4 : Int) (x5 : Int) (x6 : Int) (u : iST) : Prop :=
  v_5_takeWord_46 Q x2 x4 x5 x6 1 u
set_option maxRecDepth 20000 in
set_option maxHeartbeats 4000000 in
theorem f_5_takeWord_41 (X : yX RX5 p m c cX5_takeWord 10 s args D ca ad A) (hRf : 7 ≤ R.frames) (hRl : 232 ≤ R.locals) {Q : Int → iST → Prop} (hret : ∀ (v : Int) (u : iST) (H : Heap) (locs : List Loc) (ls : Array Slot) (pc : Nat), inR v → Q v u → yW D ca A ad s H locs u → decode cX5_takeWord pc = .ok (.ireturn, 1) → W p l e R s m args below meth c H locs 0 0 Qf (F0 m pc ls [.int (jI v)])) {x2 x4 x5 x6 : Int} (rx2 : inR x2) (rx4 : inR x4) (rx5 : inR x5) (rx6 : inR x6) (hw : yW D ca A ad s H locs u) (hl : lv_has ls 10 [(0, .ref (ad 0 4)), (1, .ref (ad 1 44)), (2, .int (jI x2)), (4, .int (jI x4)), (5, .int (jI x5)), (6, .int (jI x6))]) (h : v_5_takeWord_41 Q x2 x4 x5 x6 u) : W p l e R s m args below meth c H locs 0 0 Qf (F0 m 41 ls []) := by
  have hx := X.1.1
  have hb := X.1.2.1
  unfold v_5_takeWord_41 at h
  refine lv_iconst hx hb dX5_takeWord_41 (v := jI 1) rfl ?_
  refine lv_goto hx hb dX5_takeWord_42 (tgt := 46) rfl ?_
  exact f_5_takeWord_46 X hRf hRl hret rx2 rx4 rx5 rx6 (by decide) hw hl h

def v_5_takeWord_25 (Q : Int → iST → Prop) (x2 : Int) (x4 : Int) (x5 : Int) (y0 : Int) (u : iST) : Prop :=
  br (x4 = 40) (
    v_5_takeWord_41 Q x2 x4 x5 y0 u) (
    br (x4 ≠ 39) (
      v_5_takeWord_46 Q x2 x4 x5 y0 0 u) (
      v_5_takeWord_41 Q x2 x4 x5 y0 u))
set_option maxRecDepth 20000 in
set_option maxHeartbeats 4000000 in
theorem f_5_takeWord_25 (X : yX RX5 p m c cX5_takeWord 10 s args D ca ad A) (hRf : 7 ≤ R.frames) (hRl : 232 ≤ R.locals) {Q : Int → iST → Prop} (hret : ∀ (v : Int) (u : iST) (H : Heap) (locs : List Loc) (ls : Array Slot) (pc : Nat), inR v → Q v u → yW D ca A ad s H locs u → decode cX5_takeWord pc = .ok (.ireturn, 1) → W p l e R s m args below meth c H locs 0 0 Qf (F0 m pc ls [.int (jI v)])) {x2 x4 x5 y0 : Int} (rx2 : inR x2) (rx4 : inR x4) (rx5 : inR x5) (ry0 : inR y0) (hw : yW D ca A ad s H locs u) (hl : lv_has ls 10 [(0, .ref (ad 0 4)), (1, .ref (ad 1 44)), (2, .int (jI x2)), (4, .int (jI x4)), (5, .int (jI x5))]) (h : v_5_takeWord_25 Q x2 x4 x5 y0 u) : W p l e R s m args below meth c H locs 0 0 Qf (F0 m 25 ls [.int (jI y0)]) := by
  have hx := X.1.1
  have hb := X.1.2.1
  unfold v_5_takeWord_25 at h
  refine lv_istore hx hb dX5_takeWord_25 hl (by decide) rfl (fun ls hl => ?_)
  have hl : lv_has ls 10 [(6, .int (jI y0)), (0, .ref (ad 0 4)), (1, .ref (ad 1 44)), (2, .int (jI x2)), (4, .int (jI x4)), (5, .int (jI x5))] := hl
  refine lv_iload hx hb dX5_takeWord_27 (lv_at hl 4 rfl) ?_
  refine lv_bipush hx hb dX5_takeWord_29 (v := jI 40) rfl ?_
  refine k_icmp_eq hx hb rx4 (by decide) dX5_takeWord_31 (tgt := 41) rfl h (fun h => ?_) (fun h => ?_)
  · exact f_5_takeWord_41 X hRf hRl hret rx2 rx4 rx5 ry0 hw (lv_sub hl [1, 2, 3, 4, 5, 0] rfl) h
  · refine lv_iload hx hb dX5_takeWord_34 (lv_at hl 4 rfl) ?_
    refine lv_bipush hx hb dX5_takeWord_36 (v := jI 39) rfl ?_
    refine k_icmp_ne hx hb rx4 (by decide) dX5_takeWord_38 (tgt := 45) rfl h (fun h => ?_) (fun h => ?_)
    · refine lv_iconst hx hb dX5_takeWord_45 (v := jI 0) rfl ?_
      exact f_5_takeWord_46 X hRf hRl hret rx2 rx4 rx5 ry0 (by decide) hw (lv_sub hl [1, 2, 3, 4, 5, 0] rfl) h
    · exact f_5_takeWord_41 X hRf hRl hret rx2 rx4 rx5 ry0 hw (lv_sub hl [1, 2, 3, 4, 5, 0] rfl) h

def v_5_takeWord (a1 : Int) (a2 : Int) (Q : Int → iST → Prop) (u : iST) : Prop :=
  bd a1 3000 (rh (u.2.1 44 a1) (fun v1 => 
  v_5_atomEnd a1 a2 (fun v2 u => 
  br (v2 ≤ a1) (
    v_5_takeWord_25 Q a1 v1 v2 0 u) (
    v_5_takeWord_25 Q a1 v1 v2 1 u)) u))
set_option maxRecDepth 20000 in
set_option maxHeartbeats 4000000 in
theorem f_5_takeWord_s (X : yX RX5 p m c cX5_takeWord 10 s args D ca ad A) (hRf : 7 ≤ R.frames) (hRl : 232 ≤ R.locals) {Q : Int → iST → Prop} (hret : ∀ (v : Int) (u : iST) (H : Heap) (locs : List Loc) (ls : Array Slot) (pc : Nat), inR v → Q v u → yW D ca A ad s H locs u → decode cX5_takeWord pc = .ok (.ireturn, 1) → W p l e R s m args below meth c H locs 0 0 Qf (F0 m pc ls [.int (jI v)])) {a1 a2 : Int} (ra1 : inR a1) (ra2 : inR a2) (hw : yW D ca A ad s H locs u) (hl : lv_has ls 10 [(0, .ref (ad 0 4)), (1, .ref (ad 1 44)), (2, .int (jI a1)), (3, .int (jI a2))]) (h : v_5_takeWord a1 a2 Q u) : W p l e R s m args below meth c H locs 0 0 Qf (F0 m 0 ls []) := by
  have hx := X.1.1
  have hb := X.1.2.1
  unfold v_5_takeWord at h
  refine lv_aload_n hx hb dX5_takeWord_0 rfl (lv_at hl 1 rfl) ?_
  refine lv_iload_n hx hb dX5_takeWord_1 rfl (lv_at hl 2 rfl) ?_
  refine yl_44 X hw ra1 dX5_takeWord_2 h (fun v1 rv1 h => ?_)
  refine lv_istore hx hb dX5_takeWord_3 hl (by decide) rfl (fun ls hl => ?_)
  have hl : lv_has ls 10 [(4, .int (jI v1)), (0, .ref (ad 0 4)), (1, .ref (ad 1 44)), (2, .int (jI a1)), (3, .int (jI a2))] := hl
  refine lv_aload_n hx hb dX5_takeWord_5 rfl (lv_at hl 1 rfl) ?_
  refine lv_aload_n hx hb dX5_takeWord_6 rfl (lv_at hl 2 rfl) ?_
  refine lv_iload_n hx hb dX5_takeWord_7 rfl (lv_at hl 3 rfl) ?_
  refine lv_iload_n hx hb dX5_takeWord_8 rfl (lv_at hl 4 rfl) ?_
  refine ycI (n := 3) (e_5_atomEnd ra1 ra2 h) 5 4 (r := (RX5, TX5, 11)) rfl yG_5_72 yD_5_atomEnd X hw rfl yGo_5 (Nat.le_trans (Nat.le_of_ble_eq_true rfl) hRf) (Nat.le_trans (Nat.le_of_ble_eq_true rfl) hRl) rfl hl.1 (Nat.le_of_ble_eq_true rfl) rfl dX5_takeWord_9 (fun v2 u H locs rv2 h hw => ?_)
  refine lv_istore hx hb dX5_takeWord_12 hl (by decide) rfl (fun ls hl => ?_)
  have hl : lv_has ls 10 [(5, .int (jI v2)), (4, .int (jI v1)), (0, .ref (ad 0 4)), (1, .ref (ad 1 44)), (2, .int (jI a1)), (3, .int (jI a2))] := hl
  refine lv_iload hx hb dX5_takeWord_14 (lv_at hl 0 rfl) ?_
  refine lv_iload_n hx hb dX5_takeWord_16 rfl (lv_at hl 4 rfl) ?_
  refine k_icmp_le hx hb rv2 ra1 dX5_takeWord_17 (tgt := 24) rfl h (fun h => ?_) (fun h => ?_)
  · refine lv_iconst hx hb dX5_takeWord_24 (v := jI 0) rfl ?_
    exact f_5_takeWord_25 X hRf hRl hret ra1 (inC_in rv1) rv2 (by decide) hw (lv_sub hl [2, 3, 4, 1, 0] rfl) h
  · refine lv_iconst hx hb dX5_takeWord_20 (v := jI 1) rfl ?_
    refine lv_goto hx hb dX5_takeWord_21 (tgt := 25) rfl ?_
    exact f_5_takeWord_25 X hRf hRl hret ra1 (inC_in rv1) rv2 (by decide) hw (lv_sub hl [2, 3, 4, 1, 0] rfl) h

end
theorem e_5_takeWord {l : Launch} {a1 : Int} {a2 : Int} (ra1 : inR a1) (ra2 : inR a2) {Q : Int → iST → Prop} {u : iST} (h : v_5_takeWord a1 a2 Q u) : yMI l yX5_takeWord (.code yX5_takeWord cX5_takeWord 10 (some .int) :: wsN) { frames := 7, cells := 0, slots := 0, locals := 232 } (fun ad => [.ref (ad 0 4), .ref (ad 1 44), .int (jI a1), .int (jI a2)]) Q u := yMI_of (own := RX5) rfl (by decide +kernel) (fun _ => Nat.le_of_ble_eq_true rfl) (fun X hRf hRl hret hw hl => f_5_takeWord_s X hRf hRl hret ra1 ra2 hw hl h)

/-! ProofHouse$Reader.read -/
theorem dX5_read_0 : decode cX5_read 0 = .ok (.aload_n 0, 1) := by decide +kernel
theorem dX5_read_1 : decode cX5_read 1 = .ok (.iconst 0, 1) := by decide +kernel
theorem dX5_read_2 : decode cX5_read 2 = .ok (.putfield 24, 3) := by decide +kernel
theorem dX5_read_5 : decode cX5_read 5 = .ok (.aload_n 0, 1) := by decide +kernel
theorem dX5_read_6 : decode cX5_read 6 = .ok (.iconst 0, 1) := by decide +kernel
theorem dX5_read_7 : decode cX5_read 7 = .ok (.putfield 28, 3) := by decide +kernel
theorem dX5_read_10 : decode cX5_read 10 = .ok (.aload_n 0, 1) := by decide +kernel
theorem dX5_read_11 : decode cX5_read 11 = .ok (.iconst 0, 1) := by decide +kernel
theorem dX5_read_12 : decode cX5_read 12 = .ok (.putfield 31, 3) := by decide +kernel
theorem dX5_read_15 : decode cX5_read 15 = .ok (.aload_n 0, 1) := by decide +kernel
theorem dX5_read_16 : decode cX5_read 16 = .ok (.iconst 0, 1) := by decide +kernel
theorem dX5_read_17 : decode cX5_read 17 = .ok (.putfield 34, 3) := by decide +kernel
theorem dX5_read_20 : decode cX5_read 20 = .ok (.aload_n 0, 1) := by decide +kernel
theorem dX5_read_21 : decode cX5_read 21 = .ok (.iconst 0, 1) := by decide +kernel
theorem dX5_read_22 : decode cX5_read 22 = .ok (.putfield 37, 3) := by decide +kernel
theorem dX5_read_25 : decode cX5_read 25 = .ok (.aload_n 0, 1) := by decide +kernel
theorem dX5_read_26 : decode cX5_read 26 = .ok (.iconst (-1), 1) := by decide +kernel
theorem dX5_read_27 : decode cX5_read 27 = .ok (.putfield 40, 3) := by decide +kernel
theorem dX5_read_30 : decode cX5_read 30 = .ok (.aload_n 0, 1) := by decide +kernel
theorem dX5_read_31 : decode cX5_read 31 = .ok (.getfield 11, 3) := by decide +kernel
theorem dX5_read_34 : decode cX5_read 34 = .ok (.iconst 0, 1) := by decide +kernel
theorem dX5_read_35 : decode cX5_read 35 = .ok (.iconst 0, 1) := by decide +kernel
theorem dX5_read_36 : decode cX5_read 36 = .ok (.iastore, 1) := by decide +kernel
theorem dX5_read_37 : decode cX5_read 37 = .ok (.iconst 0, 1) := by decide +kernel
theorem dX5_read_38 : decode cX5_read 38 = .ok (.istore_n 3, 1) := by decide +kernel
theorem dX5_read_39 : decode cX5_read 39 = .ok (.iload_n 3, 1) := by decide +kernel
theorem dX5_read_40 : decode cX5_read 40 = .ok (.iload_n 2, 1) := by decide +kernel
theorem dX5_read_41 : decode cX5_read 41 = .ok (.if_icmp .ge 78, 3) := by decide +kernel
theorem dX5_read_44 : decode cX5_read 44 = .ok (.iload_n 3, 1) := by decide +kernel
theorem dX5_read_45 : decode cX5_read 45 = .ok (.aload_n 1, 1) := by decide +kernel
theorem dX5_read_46 : decode cX5_read 46 = .ok (.arraylength, 1) := by decide +kernel
theorem dX5_read_47 : decode cX5_read 47 = .ok (.if_icmp .ge 72, 3) := by decide +kernel
theorem dX5_read_50 : decode cX5_read 50 = .ok (.aload_n 0, 1) := by decide +kernel
theorem dX5_read_51 : decode cX5_read 51 = .ok (.getfield 37, 3) := by decide +kernel
theorem dX5_read_54 : decode cX5_read 54 = .ok (.ifCond .ne 65, 3) := by decide +kernel
theorem dX5_read_57 : decode cX5_read 57 = .ok (.iload_n 3, 1) := by decide +kernel
theorem dX5_read_58 : decode cX5_read 58 = .ok (.iconst 1, 1) := by decide +kernel
theorem dX5_read_59 : decode cX5_read 59 = .ok (.iadd, 1) := by decide +kernel
theorem dX5_read_60 : decode cX5_read 60 = .ok (.istore 4, 2) := by decide +kernel
theorem dX5_read_62 : decode cX5_read 62 = .ok (.aload_n 1, 1) := by decide +kernel
theorem dX5_read_63 : decode cX5_read 63 = .ok (.iload_n 3, 1) := by decide +kernel
theorem dX5_read_64 : decode cX5_read 64 = .ok (.caload, 1) := by decide +kernel
theorem dX5_read_65 : decode cX5_read 65 = .ok (.bipush 59, 2) := by decide +kernel
theorem dX5_read_67 : decode cX5_read 67 = .ok (.if_icmp .ne 15, 3) := by decide +kernel
theorem dX5_read_70 : decode cX5_read 70 = .ok (.aload_n 0, 1) := by decide +kernel
theorem dX5_read_71 : decode cX5_read 71 = .ok (.aload_n 1, 1) := by decide +kernel
theorem dX5_read_72 : decode cX5_read 72 = .ok (.iload_n 3, 1) := by decide +kernel
theorem dX5_read_73 : decode cX5_read 73 = .ok (.iload_n 2, 1) := by decide +kernel
theorem dX5_read_74 : decode cX5_read 74 = .ok (.invokevirtual 47, 3) := by decide +kernel
theorem dX5_read_77 : decode cX5_read 77 = .ok (.istore 4, 2) := by decide +kernel
theorem dX5_read_79 : decode cX5_read 79 = .ok (.goto 28, 3) := by decide +kernel
theorem dX5_read_82 : decode cX5_read 82 = .ok (.aload_n 1, 1) := by decide +kernel
theorem dX5_read_83 : decode cX5_read 83 = .ok (.iload_n 3, 1) := by decide +kernel
theorem dX5_read_84 : decode cX5_read 84 = .ok (.caload, 1) := by decide +kernel
theorem dX5_read_85 : decode cX5_read 85 = .ok (.bipush 32, 2) := by decide +kernel
theorem dX5_read_87 : decode cX5_read 87 = .ok (.if_icmp .eq 20, 3) := by decide +kernel
theorem dX5_read_90 : decode cX5_read 90 = .ok (.aload_n 1, 1) := by decide +kernel
theorem dX5_read_91 : decode cX5_read 91 = .ok (.iload_n 3, 1) := by decide +kernel
theorem dX5_read_92 : decode cX5_read 92 = .ok (.caload, 1) := by decide +kernel
theorem dX5_read_93 : decode cX5_read 93 = .ok (.bipush 10, 2) := by decide +kernel
theorem dX5_read_95 : decode cX5_read 95 = .ok (.if_icmp .eq 12, 3) := by decide +kernel
theorem dX5_read_98 : decode cX5_read 98 = .ok (.aload_n 0, 1) := by decide +kernel
theorem dX5_read_99 : decode cX5_read 99 = .ok (.aload_n 1, 1) := by decide +kernel
theorem dX5_read_100 : decode cX5_read 100 = .ok (.iload_n 3, 1) := by decide +kernel
theorem dX5_read_101 : decode cX5_read 101 = .ok (.iload_n 2, 1) := by decide +kernel
theorem dX5_read_102 : decode cX5_read 102 = .ok (.invokevirtual 51, 3) := by decide +kernel
theorem dX5_read_105 : decode cX5_read 105 = .ok (.istore 4, 2) := by decide +kernel
theorem dX5_read_107 : decode cX5_read 107 = .ok (.iload_n 3, 1) := by decide +kernel
theorem dX5_read_108 : decode cX5_read 108 = .ok (.iconst 1, 1) := by decide +kernel
theorem dX5_read_109 : decode cX5_read 109 = .ok (.iadd, 1) := by decide +kernel
theorem dX5_read_110 : decode cX5_read 110 = .ok (.iload 4, 2) := by decide +kernel
theorem dX5_read_112 : decode cX5_read 112 = .ok (.invokestatic 54, 3) := by decide +kernel
theorem dX5_read_115 : decode cX5_read 115 = .ok (.istore_n 3, 1) := by decide +kernel
theorem dX5_read_116 : decode cX5_read 116 = .ok (.goto (-77), 3) := by decide +kernel
theorem dX5_read_119 : decode cX5_read 119 = .ok (.aload_n 0, 1) := by decide +kernel
theorem dX5_read_120 : decode cX5_read 120 = .ok (.getfield 37, 3) := by decide +kernel
theorem dX5_read_123 : decode cX5_read 123 = .ok (.ifCond .ne 20, 3) := by decide +kernel
theorem dX5_read_126 : decode cX5_read 126 = .ok (.aload_n 0, 1) := by decide +kernel
theorem dX5_read_127 : decode cX5_read 127 = .ok (.getfield 11, 3) := by decide +kernel
theorem dX5_read_130 : decode cX5_read 130 = .ok (.iconst 0, 1) := by decide +kernel
theorem dX5_read_131 : decode cX5_read 131 = .ok (.iaload, 1) := by decide +kernel
theorem dX5_read_132 : decode cX5_read 132 = .ok (.bipush 6, 2) := by decide +kernel
theorem dX5_read_134 : decode cX5_read 134 = .ok (.if_icmp .eq 9, 3) := by decide +kernel
theorem dX5_read_137 : decode cX5_read 137 = .ok (.aload_n 0, 1) := by decide +kernel
theorem dX5_read_138 : decode cX5_read 138 = .ok (.iconst 3, 1) := by decide +kernel
theorem dX5_read_139 : decode cX5_read 139 = .ok (.iload_n 2, 1) := by decide +kernel
theorem dX5_read_140 : decode cX5_read 140 = .ok (.invokevirtual 60, 3) := by decide +kernel
theorem dX5_read_143 : decode cX5_read 143 = .ok (.aload_n 0, 1) := by decide +kernel
theorem dX5_read_144 : decode cX5_read 144 = .ok (.getfield 34, 3) := by decide +kernel
theorem dX5_read_147 : decode cX5_read 147 = .ok (.ireturn, 1) := by decide +kernel

section
variable {p : Program} {l : Launch} {e : Env} {R : Room} {s : State} {m : MethodId} {args : Array Value} {below : List Frame} {meth : Method} {c : Code} {H : Heap} {locs : List Loc} {Qf : State → Prop}
variable {ls : Array Slot} {D : va_G} {ca : Nat → ClassId} {A : Nat → Prop} {ad : Nat → Nat → Nat} {u : iST}
def v_5_read_143 (Q : Int → iST → Prop) (u : iST) : Prop :=
  rd (u.1 20) (fun v2 => 
  Q v2 u)
set_option maxRecDepth 20000 in
set_option maxHeartbeats 4000000 in
theorem f_5_read_143 (X : yX RX5 p m c cX5_read 5 s args D ca ad A) (hRf : 8 ≤ R.frames) (hRl : 261 ≤ R.locals) {Q : Int → iST → Prop} (hret : ∀ (v : Int) (u : iST) (H : Heap) (locs : List Loc) (ls : Array Slot) (pc : Nat), inR v → Q v u → yW D ca A ad s H locs u → decode cX5_read pc = .ok (.ireturn, 1) → W p l e R s m args below meth c H locs 0 0 Qf (F0 m pc ls [.int (jI v)])) (hw : yW D ca A ad s H locs u) (hl : lv_has ls 5 [(0, .ref (ad 0 4))]) (h : v_5_read_143 Q u) : W p l e R s m args below meth c H locs 0 0 Qf (F0 m 143 ls []) := by
  have hx := X.1.1
  have hb := X.1.2.1
  unfold v_5_read_143 at h
  refine lv_aload_n hx hb dX5_read_143 rfl (lv_at hl 0 rfl) ?_
  refine yg_5_34 X hw dX5_read_144 h (fun v2 rv2 h => ?_)
  exact hret _ _ _ _ _ _ rv2 h hw dX5_read_147

def v_5_read_119 (Q : Int → iST → Prop) (x2 : Int) (u : iST) : Prop :=
  rd (u.1 21) (fun v1 => 
  br (v1 ≠ 0) (
    v_5_read_143 Q u) (
    bd 0 41 (rd (u.2.1 23 0) (fun v3 => 
    br (v3 = 6) (
      v_5_read_143 Q u) (
      v_5_refuse 3 x2 (fun u => 
      v_5_read_143 Q u) u)))))
set_option maxRecDepth 20000 in
set_option maxHeartbeats 4000000 in
theorem f_5_read_119 (X : yX RX5 p m c cX5_read 5 s args D ca ad A) (hRf : 8 ≤ R.frames) (hRl : 261 ≤ R.locals) {Q : Int → iST → Prop} (hret : ∀ (v : Int) (u : iST) (H : Heap) (locs : List Loc) (ls : Array Slot) (pc : Nat), inR v → Q v u → yW D ca A ad s H locs u → decode cX5_read pc = .ok (.ireturn, 1) → W p l e R s m args below meth c H locs 0 0 Qf (F0 m pc ls [.int (jI v)])) {x2 : Int} (rx2 : inR x2) (hw : yW D ca A ad s H locs u) (hl : lv_has ls 5 [(0, .ref (ad 0 4)), (2, .int (jI x2))]) (h : v_5_read_119 Q x2 u) : W p l e R s m args below meth c H locs 0 0 Qf (F0 m 119 ls []) := by
  have hx := X.1.1
  have hb := X.1.2.1
  unfold v_5_read_119 at h
  refine lv_aload_n hx hb dX5_read_119 rfl (lv_at hl 0 rfl) ?_
  refine yg_5_37 X hw dX5_read_120 h (fun v1 rv1 h => ?_)
  refine k_if_ne hx hb rv1 dX5_read_123 (tgt := 143) rfl h (fun h => ?_) (fun h => ?_)
  · exact f_5_read_143 X hRf hRl hret hw (lv_sub hl [0] rfl) h
  · refine lv_aload_n hx hb dX5_read_126 rfl (lv_at hl 0 rfl) ?_
    refine yg_5_11 X hw dX5_read_127 ?_
    refine lv_iconst hx hb dX5_read_130 (v := jI 0) rfl ?_
    refine yl_23 X hw (by decide) dX5_read_131 h (fun v3 rv3 h => ?_)
    refine lv_bipush hx hb dX5_read_132 (v := jI 6) rfl ?_
    refine k_icmp_eq hx hb rv3 (by decide) dX5_read_134 (tgt := 143) rfl h (fun h => ?_) (fun h => ?_)
    · exact f_5_read_143 X hRf hRl hret hw (lv_sub hl [0] rfl) h
    · refine lv_aload_n hx hb dX5_read_137 rfl (lv_at hl 0 rfl) ?_
      refine lv_iconst hx hb dX5_read_138 (v := jI 3) rfl ?_
      refine lv_iload_n hx hb dX5_read_139 rfl (lv_at hl 1 rfl) ?_
      refine ycV (n := 2) (e_5_refuse (by decide) rx2 h) 5 4 (r := (RX5, TX5, 11)) rfl yG_5_60 yD_5_refuse X hw rfl yGo_5 (Nat.le_trans (Nat.le_of_ble_eq_true rfl) hRf) (Nat.le_trans (Nat.le_of_ble_eq_true rfl) hRl) rfl hl.1 (Nat.le_of_ble_eq_true rfl) rfl dX5_read_140 (fun u H locs h hw => ?_)
      exact f_5_read_143 X hRf hRl hret hw (lv_sub hl [0] rfl) h

def v_5_read_107 (R39 : Int → Int → iST → Prop) (Q : Int → iST → Prop) (x2 : Int) (x3 : Int) (x4 : Int) (u : iST) : Prop :=
  ov (x3 + 1) (
  rd (if (x3 + 1) < x4 then x4 else (x3 + 1)) (fun v10 => 
  R39 x2 v10 u))
set_option maxRecDepth 20000 in
set_option maxHeartbeats 4000000 in
theorem f_5_read_107 (X : yX RX5 p m c cX5_read 5 s args D ca ad A) (hRf : 8 ≤ R.frames) (hRl : 261 ≤ R.locals) {Q : Int → iST → Prop} (hret : ∀ (v : Int) (u : iST) (H : Heap) (locs : List Loc) (ls : Array Slot) (pc : Nat), inR v → Q v u → yW D ca A ad s H locs u → decode cX5_read pc = .ok (.ireturn, 1) → W p l e R s m args below meth c H locs 0 0 Qf (F0 m pc ls [.int (jI v)])) {R39 : Int → Int → iST → Prop} (hR39 : ∀ (x2 : Int) (x3 : Int) (u : iST) (H : Heap) (locs : List Loc) (ls : Array Slot), inR x2 → inR x3 → yW D ca A ad s H locs u → lv_has ls 5 [(0, .ref (ad 0 4)), (1, .ref (ad 1 44)), (2, .int (jI x2)), (3, .int (jI x3))] → R39 x2 x3 u → W p l e R s m args below meth c H locs 0 0 Qf (F0 m 39 ls [])) {x2 x3 x4 : Int} (rx2 : inR x2) (rx3 : inR x3) (rx4 : inR x4) (hw : yW D ca A ad s H locs u) (hl : lv_has ls 5 [(0, .ref (ad 0 4)), (1, .ref (ad 1 44)), (2, .int (jI x2)), (3, .int (jI x3)), (4, .int (jI x4))]) (h : v_5_read_107 R39 Q x2 x3 x4 u) : W p l e R s m args below meth c H locs 0 0 Qf (F0 m 107 ls []) := by
  have hx := X.1.1
  have hb := X.1.2.1
  unfold v_5_read_107 at h
  refine lv_iload_n hx hb dX5_read_107 rfl (lv_at hl 3 rfl) ?_
  refine lv_iconst hx hb dX5_read_108 (v := jI 1) rfl ?_
  refine k_iadd hx hb dX5_read_109 h (fun r9 h => ?_)
  refine lv_iload hx hb dX5_read_110 (lv_at hl 4 rfl) ?_
  refine yMmax 54 r9 rx4 yJ_1 X hl.1 (Nat.le_trans (Nat.le_of_ble_eq_true rfl) hRf) (Nat.le_trans (Nat.le_of_ble_eq_true rfl) hRl) dX5_read_112 h (fun v10 rv10 h => ?_)
  refine lv_istore_n hx hb dX5_read_115 rfl hl (by decide) rfl (fun ls hl => ?_)
  have hl : lv_has ls 5 [(3, .int (jI v10)), (0, .ref (ad 0 4)), (1, .ref (ad 1 44)), (2, .int (jI x2)), (4, .int (jI x4))] := hl
  refine lv_goto hx hb dX5_read_116 (tgt := 39) rfl ?_
  exact hR39 _ _ _ H locs ls rx2 rv10 hw (lv_sub hl [1, 2, 3, 0] rfl) h

def v_5_read_39b (R39 : Int → Int → iST → Prop) (Q : Int → iST → Prop) (x2 : Int) (x3 : Int) (u : iST) : Prop :=
  br (x2 ≤ x3) (
    v_5_read_119 Q x2 u) (
    br (3000 ≤ x3) (
      v_5_read_119 Q x2 u) (
      rd (u.1 21) (fun v5 => 
      br (v5 ≠ 0) (
        v_5_read_119 Q x2 u) (
        ov (x3 + 1) (
        bd x3 3000 (rh (u.2.1 44 x3) (fun v7 => 
        br (v7 ≠ 59) (
          bd x3 3000 (rh (u.2.1 44 x3) (fun v8 => 
          br (v8 = 32) (
            v_5_read_107 R39 Q x2 x3 (x3 + 1) u) (
            bd x3 3000 (rh (u.2.1 44 x3) (fun v11 => 
            br (v11 = 10) (
              v_5_read_107 R39 Q x2 x3 (x3 + 1) u) (
              v_5_takeWord x3 x2 (fun v12 u => 
              v_5_read_107 R39 Q x2 x3 v12 u) u))))))) (
          v_5_lineEnd x3 x2 (fun v13 u => 
          v_5_read_107 R39 Q x2 x3 v13 u) u))))))))
def v_5_read_39 (Q : Int → iST → Prop) (x2 : Int) (x3 : Int) (u : iST) : Prop := ∀ R39 : Int → Int → iST → Prop, (∀ (x2 : Int) (x3 : Int) (u : iST), v_5_read_39b R39 Q x2 x3 u → R39 x2 x3 u) → R39 x2 x3 u
set_option maxRecDepth 20000 in
set_option maxHeartbeats 4000000 in
theorem f_5_read_39 (X : yX RX5 p m c cX5_read 5 s args D ca ad A) (hRf : 8 ≤ R.frames) (hRl : 261 ≤ R.locals) {Q : Int → iST → Prop} (hret : ∀ (v : Int) (u : iST) (H : Heap) (locs : List Loc) (ls : Array Slot) (pc : Nat), inR v → Q v u → yW D ca A ad s H locs u → decode cX5_read pc = .ok (.ireturn, 1) → W p l e R s m args below meth c H locs 0 0 Qf (F0 m pc ls [.int (jI v)])) {x2 x3 : Int} (rx2 : inR x2) (rx3 : inR x3) (hw : yW D ca A ad s H locs u) (hl : lv_has ls 5 [(0, .ref (ad 0 4)), (1, .ref (ad 1 44)), (2, .int (jI x2)), (3, .int (jI x3))]) (h : v_5_read_39 Q x2 x3 u) : W p l e R s m args below meth c H locs 0 0 Qf (F0 m 39 ls []) := by
  refine h (fun x2 x3 u => ∀ (H : Heap) (locs : List Loc) (ls : Array Slot), inR x2 → inR x3 → yW D ca A ad s H locs u → lv_has ls 5 [(0, .ref (ad 0 4)), (1, .ref (ad 1 44)), (2, .int (jI x2)), (3, .int (jI x3))] → W p l e R s m args below meth c H locs 0 0 Qf (F0 m 39 ls [])) ?_ H locs ls rx2 rx3 hw hl
  clear h hl hw rx2 rx3
  intro x2 x3 u h H locs ls rx2 rx3 hw hl
  have hR39 : ∀ (x2 : Int) (x3 : Int) (u : iST) (H : Heap) (locs : List Loc) (ls : Array Slot), inR x2 → inR x3 → yW D ca A ad s H locs u → lv_has ls 5 [(0, .ref (ad 0 4)), (1, .ref (ad 1 44)), (2, .int (jI x2)), (3, .int (jI x3))] → (fun (x2 : Int) (x3 : Int) u => ∀ (H : Heap) (locs : List Loc) (ls : Array Slot), inR x2 → inR x3 → yW D ca A ad s H locs u → lv_has ls 5 [(0, .ref (ad 0 4)), (1, .ref (ad 1 44)), (2, .int (jI x2)), (3, .int (jI x3))] → W p l e R s m args below meth c H locs 0 0 Qf (F0 m 39 ls [])) x2 x3 u → W p l e R s m args below meth c H locs 0 0 Qf (F0 m 39 ls []) := fun x2 x3 u H locs ls rx2 rx3 hw hl h => h H locs ls rx2 rx3 hw hl
  have hx := X.1.1
  have hb := X.1.2.1
  unfold v_5_read_39b at h
  refine lv_iload_n hx hb dX5_read_39 rfl (lv_at hl 3 rfl) ?_
  refine lv_iload_n hx hb dX5_read_40 rfl (lv_at hl 2 rfl) ?_
  refine k_icmp_ge hx hb rx3 rx2 dX5_read_41 (tgt := 119) rfl h (fun h => ?_) (fun h => ?_)
  · exact f_5_read_119 X hRf hRl hret rx2 hw (lv_sub hl [0, 2] rfl) h
  · refine lv_iload_n hx hb dX5_read_44 rfl (lv_at hl 3 rfl) ?_
    refine lv_aload_n hx hb dX5_read_45 rfl (lv_at hl 1 rfl) ?_
    refine yn_44 X hw dX5_read_46 ?_
    refine k_icmp_ge hx hb rx3 (by decide) dX5_read_47 (tgt := 119) rfl h (fun h => ?_) (fun h => ?_)
    · exact f_5_read_119 X hRf hRl hret rx2 hw (lv_sub hl [0, 2] rfl) h
    · refine lv_aload_n hx hb dX5_read_50 rfl (lv_at hl 0 rfl) ?_
      refine yg_5_37 X hw dX5_read_51 h (fun v5 rv5 h => ?_)
      refine k_if_ne hx hb rv5 dX5_read_54 (tgt := 119) rfl h (fun h => ?_) (fun h => ?_)
      · exact f_5_read_119 X hRf hRl hret rx2 hw (lv_sub hl [0, 2] rfl) h
      · refine lv_iload_n hx hb dX5_read_57 rfl (lv_at hl 3 rfl) ?_
        refine lv_iconst hx hb dX5_read_58 (v := jI 1) rfl ?_
        refine k_iadd hx hb dX5_read_59 h (fun r6 h => ?_)
        refine lv_istore hx hb dX5_read_60 hl (by decide) rfl (fun ls hl => ?_)
        have hl : lv_has ls 5 [(4, .int (jI (x3 + 1))), (0, .ref (ad 0 4)), (1, .ref (ad 1 44)), (2, .int (jI x2)), (3, .int (jI x3))] := hl
        refine lv_aload_n hx hb dX5_read_62 rfl (lv_at hl 2 rfl) ?_
        refine lv_iload_n hx hb dX5_read_63 rfl (lv_at hl 4 rfl) ?_
        refine yl_44 X hw rx3 dX5_read_64 h (fun v7 rv7 h => ?_)
        refine lv_bipush hx hb dX5_read_65 (v := jI 59) rfl ?_
        refine k_icmp_ne hx hb (inC_in rv7) (by decide) dX5_read_67 (tgt := 82) rfl h (fun h => ?_) (fun h => ?_)
        · refine lv_aload_n hx hb dX5_read_82 rfl (lv_at hl 2 rfl) ?_
          refine lv_iload_n hx hb dX5_read_83 rfl (lv_at hl 4 rfl) ?_
          refine yl_44 X hw rx3 dX5_read_84 h (fun v8 rv8 h => ?_)
          refine lv_bipush hx hb dX5_read_85 (v := jI 32) rfl ?_
          refine k_icmp_eq hx hb (inC_in rv8) (by decide) dX5_read_87 (tgt := 107) rfl h (fun h => ?_) (fun h => ?_)
          · exact f_5_read_107 X hRf hRl hret hR39 rx2 rx3 r6 hw (lv_sub hl [1, 2, 3, 4, 0] rfl) h
          · refine lv_aload_n hx hb dX5_read_90 rfl (lv_at hl 2 rfl) ?_
            refine lv_iload_n hx hb dX5_read_91 rfl (lv_at hl 4 rfl) ?_
            refine yl_44 X hw rx3 dX5_read_92 h (fun v11 rv11 h => ?_)
            refine lv_bipush hx hb dX5_read_93 (v := jI 10) rfl ?_
            refine k_icmp_eq hx hb (inC_in rv11) (by decide) dX5_read_95 (tgt := 107) rfl h (fun h => ?_) (fun h => ?_)
            · exact f_5_read_107 X hRf hRl hret hR39 rx2 rx3 r6 hw (lv_sub hl [1, 2, 3, 4, 0] rfl) h
            · refine lv_aload_n hx hb dX5_read_98 rfl (lv_at hl 1 rfl) ?_
              refine lv_aload_n hx hb dX5_read_99 rfl (lv_at hl 2 rfl) ?_
              refine lv_iload_n hx hb dX5_read_100 rfl (lv_at hl 4 rfl) ?_
              refine lv_iload_n hx hb dX5_read_101 rfl (lv_at hl 3 rfl) ?_
              refine ycI (n := 3) (e_5_takeWord rx3 rx2 h) 5 4 (r := (RX5, TX5, 11)) rfl yG_5_51 yD_5_takeWord X hw rfl yGo_5 (Nat.le_trans (Nat.le_of_ble_eq_true rfl) hRf) (Nat.le_trans (Nat.le_of_ble_eq_true rfl) hRl) rfl hl.1 (Nat.le_of_ble_eq_true rfl) rfl dX5_read_102 (fun v12 u H locs rv12 h hw => ?_)
              refine lv_istore hx hb dX5_read_105 hl (by decide) rfl (fun ls hl => ?_)
              have hl : lv_has ls 5 [(4, .int (jI v12)), (0, .ref (ad 0 4)), (1, .ref (ad 1 44)), (2, .int (jI x2)), (3, .int (jI x3))] := hl
              exact f_5_read_107 X hRf hRl hret hR39 rx2 rx3 rv12 hw (lv_sub hl [1, 2, 3, 4, 0] rfl) h
        · refine lv_aload_n hx hb dX5_read_70 rfl (lv_at hl 1 rfl) ?_
          refine lv_aload_n hx hb dX5_read_71 rfl (lv_at hl 2 rfl) ?_
          refine lv_iload_n hx hb dX5_read_72 rfl (lv_at hl 4 rfl) ?_
          refine lv_iload_n hx hb dX5_read_73 rfl (lv_at hl 3 rfl) ?_
          refine ycI (n := 3) (e_5_lineEnd rx3 rx2 h) 5 4 (r := (RX5, TX5, 11)) rfl yG_5_47 yD_5_lineEnd X hw rfl yGo_5 (Nat.le_trans (Nat.le_of_ble_eq_true rfl) hRf) (Nat.le_trans (Nat.le_of_ble_eq_true rfl) hRl) rfl hl.1 (Nat.le_of_ble_eq_true rfl) rfl dX5_read_74 (fun v13 u H locs rv13 h hw => ?_)
          refine lv_istore hx hb dX5_read_77 hl (by decide) rfl (fun ls hl => ?_)
          have hl : lv_has ls 5 [(4, .int (jI v13)), (0, .ref (ad 0 4)), (1, .ref (ad 1 44)), (2, .int (jI x2)), (3, .int (jI x3))] := hl
          refine lv_goto hx hb dX5_read_79 (tgt := 107) rfl ?_
          exact f_5_read_107 X hRf hRl hret hR39 rx2 rx3 rv13 hw (lv_sub hl [1, 2, 3, 4, 0] rfl) h

def v_5_read (a1 : Int) (Q : Int → iST → Prop) (u : iST) : Prop :=
  sw (iI u 17 0) (fun u => 
  sw (iI u 18 0) (fun u => 
  sw (iI u 19 0) (fun u => 
  sw (iI u 20 0) (fun u => 
  sw (iI u 21 0) (fun u => 
  sw (iI u 22 (-1)) (fun u => 
  bd 0 41 (sw (iA u 23 0 0) (fun u => 
  v_5_read_39 Q a1 0 u))))))))
set_option maxRecDepth 20000 in
set_option maxHeartbeats 4000000 in
theorem f_5_read_s (X : yX RX5 p m c cX5_read 5 s args D ca ad A) (hRf : 8 ≤ R.frames) (hRl : 261 ≤ R.locals) {Q : Int → iST → Prop} (hret : ∀ (v : Int) (u : iST) (H : Heap) (locs : List Loc) (ls : Array Slot) (pc : Nat), inR v → Q v u → yW D ca A ad s H locs u → decode cX5_read pc = .ok (.ireturn, 1) → W p l e R s m args below meth c H locs 0 0 Qf (F0 m pc ls [.int (jI v)])) {a1 : Int} (ra1 : inR a1) (hw : yW D ca A ad s H locs u) (hl : lv_has ls 5 [(0, .ref (ad 0 4)), (1, .ref (ad 1 44)), (2, .int (jI a1))]) (h : v_5_read a1 Q u) : W p l e R s m args below meth c H locs 0 0 Qf (F0 m 0 ls []) := by
  have hx := X.1.1
  have hb := X.1.2.1
  unfold v_5_read at h
  refine lv_aload_n hx hb dX5_read_0 rfl (lv_at hl 0 rfl) ?_
  refine lv_iconst hx hb dX5_read_1 (v := jI 0) rfl ?_
  refine yp_5_24 X hw (by decide) dX5_read_2 h (fun H locs u hw h => ?_)
  refine lv_aload_n hx hb dX5_read_5 rfl (lv_at hl 0 rfl) ?_
  refine lv_iconst hx hb dX5_read_6 (v := jI 0) rfl ?_
  refine yp_5_28 X hw (by decide) dX5_read_7 h (fun H locs u hw h => ?_)
  refine lv_aload_n hx hb dX5_read_10 rfl (lv_at hl 0 rfl) ?_
  refine lv_iconst hx hb dX5_read_11 (v := jI 0) rfl ?_
  refine yp_5_31 X hw (by decide) dX5_read_12 h (fun H locs u hw h => ?_)
  refine lv_aload_n hx hb dX5_read_15 rfl (lv_at hl 0 rfl) ?_
  refine lv_iconst hx hb dX5_read_16 (v := jI 0) rfl ?_
  refine yp_5_34 X hw (by decide) dX5_read_17 h (fun H locs u hw h => ?_)
  refine lv_aload_n hx hb dX5_read_20 rfl (lv_at hl 0 rfl) ?_
  refine lv_iconst hx hb dX5_read_21 (v := jI 0) rfl ?_
  refine yp_5_37 X hw (by decide) dX5_read_22 h (fun H locs u hw h => ?_)
  refine lv_aload_n hx hb dX5_read_25 rfl (lv_at hl 0 rfl) ?_
  refine lv_iconst hx hb dX5_read_26 (v := jI (-1)) rfl ?_
  refine yp_5_40 X hw (by decide) dX5_read_27 h (fun H locs u hw h => ?_)
  refine lv_aload_n hx hb dX5_read_30 rfl (lv_at hl 0 rfl) ?_
  refine yg_5_11 X hw dX5_read_31 ?_
  refine lv_iconst hx hb dX5_read_34 (v := jI 0) rfl ?_
  refine lv_iconst hx hb dX5_read_35 (v := jI 0) rfl ?_
  refine yt_23 X hw (by decide) (by decide) dX5_read_36 h (fun H locs u hw h => ?_)
  refine lv_iconst hx hb dX5_read_37 (v := jI 0) rfl ?_
  refine lv_istore_n hx hb dX5_read_38 rfl hl (by decide) rfl (fun ls hl => ?_)
  have hl : lv_has ls 5 [(3, .int (jI 0)), (0, .ref (ad 0 4)), (1, .ref (ad 1 44)), (2, .int (jI a1))] := hl
  exact f_5_read_39 X hRf hRl hret ra1 (by decide) hw (lv_sub hl [1, 2, 3, 0] rfl) h

end
theorem e_5_read {l : Launch} {a1 : Int} (ra1 : inR a1) {Q : Int → iST → Prop} {u : iST} (h : v_5_read a1 Q u) : yMI l yX5_read (.code yX5_read cX5_read 5 (some .int) :: wsN) { frames := 8, cells := 0, slots := 0, locals := 261 } (fun ad => [.ref (ad 0 4), .ref (ad 1 44), .int (jI a1)]) Q u := yMI_of (own := RX5) rfl (by decide +kernel) (fun _ => Nat.le_of_ble_eq_true rfl) (fun X hRf hRl hret hw hl => f_5_read_s X hRf hRl hret ra1 hw hl h)

/-! ProofHouse$Rewriter.begin -/
theorem dX6_begin_0 : decode cX6_begin 0 = .ok (.aload_n 0, 1) := by decide +kernel
theorem dX6_begin_1 : decode cX6_begin 1 = .ok (.iconst 0, 1) := by decide +kernel
theorem dX6_begin_2 : decode cX6_begin 2 = .ok (.putfield 29, 3) := by decide +kernel
theorem dX6_begin_5 : decode cX6_begin 5 = .ok (.aload_n 0, 1) := by decide +kernel
theorem dX6_begin_6 : decode cX6_begin 6 = .ok (.aload_n 0, 1) := by decide +kernel
theorem dX6_begin_7 : decode cX6_begin 7 = .ok (.getfield 43, 3) := by decide +kernel
theorem dX6_begin_10 : decode cX6_begin 10 = .ok (.getfield 67, 3) := by decide +kernel
theorem dX6_begin_13 : decode cX6_begin 13 = .ok (.putfield 23, 3) := by decide +kernel
theorem dX6_begin_16 : decode cX6_begin 16 = .ok (.return_, 1) := by decide +kernel

section
variable {p : Program} {l : Launch} {e : Env} {R : Room} {s : State} {m : MethodId} {args : Array Value} {below : List Frame} {meth : Method} {c : Code} {H : Heap} {locs : List Loc} {Qf : State → Prop}
variable {ls : Array Slot} {D : va_G} {ca : Nat → ClassId} {A : Nat → Prop} {ad : Nat → Nat → Nat} {u : iST}
def v_6_begin (Q : iST → Prop) (u : iST) : Prop :=
  sw (iI u 26 0) (fun u => 
  rd (u.1 1) (fun v1 => 
  sw (iI u 25 v1) (fun u => 
  Q u)))
set_option maxRecDepth 20000 in
set_option maxHeartbeats 4000000 in
theorem f_6_begin_s (X : yX RX6 p m c cX6_begin 1 s args D ca ad A) (hRf : 0 ≤ R.frames) (hRl : 0 ≤ R.locals) {Q : iST → Prop} (hret : ∀ (u : iST) (H : Heap) (locs : List Loc) (ls : Array Slot) (pc : Nat), Q u → yW D ca A ad s H locs u → decode cX6_begin pc = .ok (.return_, 1) → W p l e R s m args below meth c H locs 0 0 Qf (F0 m pc ls [])) (hw : yW D ca A ad s H locs u) (hl : lv_has ls 1 [(0, .ref (ad 0 5))]) (h : v_6_begin Q u) : W p l e R s m args below meth c H locs 0 0 Qf (F0 m 0 ls []) := by
  have hx := X.1.1
  have hb := X.1.2.1
  unfold v_6_begin at h
  refine lv_aload_n hx hb dX6_begin_0 rfl (lv_at hl 0 rfl) ?_
  refine lv_iconst hx hb dX6_begin_1 (v := jI 0) rfl ?_
  refine yp_6_29 X hw (by decide) dX6_begin_2 h (fun H locs u hw h => ?_)
  refine lv_aload_n hx hb dX6_begin_5 rfl (lv_at hl 0 rfl) ?_
  refine lv_aload_n hx hb dX6_begin_6 rfl (lv_at hl 0 rfl) ?_
  refine yg_6_43 X hw dX6_begin_7 ?_
  refine yg_6_67 X hw dX6_begin_10 h (fun v1 rv1 h => ?_)
  refine yp_6_23 X hw rv1 dX6_begin_13 h (fun H locs u hw h => ?_)
  exact hret _ _ _ _ _ h hw dX6_begin_16

end
theorem e_6_begin {l : Launch} {Q : iST → Prop} {u : iST} (h : v_6_begin Q u) : yMV l yX6_begin (.code yX6_begin cX6_begin 1 none :: wsN) { frames := 0, cells := 0, slots := 0, locals := 0 } (fun ad => [.ref (ad 0 5)]) Q u := yMV_of (own := RX6) rfl (by decide +kernel) (fun _ => Nat.le_of_ble_eq_true rfl) (fun X hRf hRl hret hw hl => f_6_begin_s X hRf hRl hret hw hl h)

/-! ProofHouse$Rewriter.doNotesHold -/
theorem dX6_doNotesHold_0 : decode cX6_doNotesHold 0 = .ok (.iconst 1, 1) := by decide +kernel
theorem dX6_doNotesHold_1 : decode cX6_doNotesHold 1 = .ok (.istore_n 1, 1) := by decide +kernel
theorem dX6_doNotesHold_2 : decode cX6_doNotesHold 2 = .ok (.aload_n 0, 1) := by decide +kernel
theorem dX6_doNotesHold_3 : decode cX6_doNotesHold 3 = .ok (.iconst 1, 1) := by decide +kernel
theorem dX6_doNotesHold_4 : decode cX6_doNotesHold 4 = .ok (.putfield 32, 3) := by decide +kernel
theorem dX6_doNotesHold_7 : decode cX6_doNotesHold 7 = .ok (.iconst 0, 1) := by decide +kernel
theorem dX6_doNotesHold_8 : decode cX6_doNotesHold 8 = .ok (.istore_n 2, 1) := by decide +kernel
theorem dX6_doNotesHold_9 : decode cX6_doNotesHold 9 = .ok (.iload_n 2, 1) := by decide +kernel
theorem dX6_doNotesHold_10 : decode cX6_doNotesHold 10 = .ok (.aload_n 0, 1) := by decide +kernel
theorem dX6_doNotesHold_11 : decode cX6_doNotesHold 11 = .ok (.getfield 29, 3) := by decide +kernel
theorem dX6_doNotesHold_14 : decode cX6_doNotesHold 14 = .ok (.if_icmp .ge 76, 3) := by decide +kernel
theorem dX6_doNotesHold_17 : decode cX6_doNotesHold 17 = .ok (.iload_n 1, 1) := by decide +kernel
theorem dX6_doNotesHold_18 : decode cX6_doNotesHold 18 = .ok (.ifCond .eq 72, 3) := by decide +kernel
theorem dX6_doNotesHold_21 : decode cX6_doNotesHold 21 = .ok (.aload_n 0, 1) := by decide +kernel
theorem dX6_doNotesHold_22 : decode cX6_doNotesHold 22 = .ok (.iload_n 2, 1) := by decide +kernel
theorem dX6_doNotesHold_23 : decode cX6_doNotesHold 23 = .ok (.iconst 1, 1) := by decide +kernel
theorem dX6_doNotesHold_24 : decode cX6_doNotesHold 24 = .ok (.iadd, 1) := by decide +kernel
theorem dX6_doNotesHold_25 : decode cX6_doNotesHold 25 = .ok (.putfield 36, 3) := by decide +kernel
theorem dX6_doNotesHold_28 : decode cX6_doNotesHold 28 = .ok (.aload_n 0, 1) := by decide +kernel
theorem dX6_doNotesHold_29 : decode cX6_doNotesHold 29 = .ok (.getfield 26, 3) := by decide +kernel
theorem dX6_doNotesHold_32 : decode cX6_doNotesHold 32 = .ok (.iload_n 2, 1) := by decide +kernel
theorem dX6_doNotesHold_33 : decode cX6_doNotesHold 33 = .ok (.aaload, 1) := by decide +kernel
theorem dX6_doNotesHold_34 : decode cX6_doNotesHold 34 = .ok (.astore_n 3, 1) := by decide +kernel
theorem dX6_doNotesHold_35 : decode cX6_doNotesHold 35 = .ok (.aload_n 0, 1) := by decide +kernel
theorem dX6_doNotesHold_36 : decode cX6_doNotesHold 36 = .ok (.aload_n 3, 1) := by decide +kernel
theorem dX6_doNotesHold_37 : decode cX6_doNotesHold 37 = .ok (.iconst 0, 1) := by decide +kernel
theorem dX6_doNotesHold_38 : decode cX6_doNotesHold 38 = .ok (.iaload, 1) := by decide +kernel
theorem dX6_doNotesHold_39 : decode cX6_doNotesHold 39 = .ok (.aload_n 3, 1) := by decide +kernel
theorem dX6_doNotesHold_40 : decode cX6_doNotesHold 40 = .ok (.iconst 1, 1) := by decide +kernel
theorem dX6_doNotesHold_41 : decode cX6_doNotesHold 41 = .ok (.iaload, 1) := by decide +kernel
theorem dX6_doNotesHold_42 : decode cX6_doNotesHold 42 = .ok (.aload_n 3, 1) := by decide +kernel
theorem dX6_doNotesHold_43 : decode cX6_doNotesHold 43 = .ok (.iconst 2, 1) := by decide +kernel
theorem dX6_doNotesHold_44 : decode cX6_doNotesHold 44 = .ok (.iaload, 1) := by decide +kernel
theorem dX6_doNotesHold_45 : decode cX6_doNotesHold 45 = .ok (.invokevirtual 295, 3) := by decide +kernel
theorem dX6_doNotesHold_48 : decode cX6_doNotesHold 48 = .ok (.istore 4, 2) := by decide +kernel
theorem dX6_doNotesHold_50 : decode cX6_doNotesHold 50 = .ok (.aload_n 0, 1) := by decide +kernel
theorem dX6_doNotesHold_51 : decode cX6_doNotesHold 51 = .ok (.getfield 39, 3) := by decide +kernel
theorem dX6_doNotesHold_54 : decode cX6_doNotesHold 54 = .ok (.getfield 77, 3) := by decide +kernel
theorem dX6_doNotesHold_57 : decode cX6_doNotesHold 57 = .ok (.ifCond .ne 25, 3) := by decide +kernel
theorem dX6_doNotesHold_60 : decode cX6_doNotesHold 60 = .ok (.iload 4, 2) := by decide +kernel
theorem dX6_doNotesHold_62 : decode cX6_doNotesHold 62 = .ok (.aload_n 3, 1) := by decide +kernel
theorem dX6_doNotesHold_63 : decode cX6_doNotesHold 63 = .ok (.iconst 3, 1) := by decide +kernel
theorem dX6_doNotesHold_64 : decode cX6_doNotesHold 64 = .ok (.iaload, 1) := by decide +kernel
theorem dX6_doNotesHold_65 : decode cX6_doNotesHold 65 = .ok (.if_icmp .ne 17, 3) := by decide +kernel
theorem dX6_doNotesHold_68 : decode cX6_doNotesHold 68 = .ok (.aload_n 0, 1) := by decide +kernel
theorem dX6_doNotesHold_69 : decode cX6_doNotesHold 69 = .ok (.getfield 36, 3) := by decide +kernel
theorem dX6_doNotesHold_72 : decode cX6_doNotesHold 72 = .ok (.aload_n 3, 1) := by decide +kernel
theorem dX6_doNotesHold_73 : decode cX6_doNotesHold 73 = .ok (.iconst 4, 1) := by decide +kernel
theorem dX6_doNotesHold_74 : decode cX6_doNotesHold 74 = .ok (.iaload, 1) := by decide +kernel
theorem dX6_doNotesHold_75 : decode cX6_doNotesHold 75 = .ok (.if_icmp .ne 7, 3) := by decide +kernel
theorem dX6_doNotesHold_78 : decode cX6_doNotesHold 78 = .ok (.iconst 1, 1) := by decide +kernel
theorem dX6_doNotesHold_79 : decode cX6_doNotesHold 79 = .ok (.goto 4, 3) := by decide +kernel
theorem dX6_doNotesHold_82 : decode cX6_doNotesHold 82 = .ok (.iconst 0, 1) := by decide +kernel
theorem dX6_doNotesHold_83 : decode cX6_doNotesHold 83 = .ok (.istore_n 1, 1) := by decide +kernel
theorem dX6_doNotesHold_84 : decode cX6_doNotesHold 84 = .ok (.iinc 2 1, 3) := by decide +kernel
theorem dX6_doNotesHold_87 : decode cX6_doNotesHold 87 = .ok (.goto (-78), 3) := by decide +kernel
theorem dX6_doNotesHold_90 : decode cX6_doNotesHold 90 = .ok (.aload_n 0, 1) := by decide +kernel
theorem dX6_doNotesHold_91 : decode cX6_doNotesHold 91 = .ok (.iconst 0, 1) := by decide +kernel
theorem dX6_doNotesHold_92 : decode cX6_doNotesHold 92 = .ok (.putfield 32, 3) := by decide +kernel
theorem dX6_doNotesHold_95 : decode cX6_doNotesHold 95 = .ok (.aload_n 0, 1) := by decide +kernel
theorem dX6_doNotesHold_96 : decode cX6_doNotesHold 96 = .ok (.iconst 0, 1) := by decide +kernel
theorem dX6_doNotesHold_97 : decode cX6_doNotesHold 97 = .ok (.putfield 36, 3) := by decide +kernel
theorem dX6_doNotesHold_100 : decode cX6_doNotesHold 100 = .ok (.iload_n 1, 1) := by decide +kernel
theorem dX6_doNotesHold_101 : decode cX6_doNotesHold 101 = .ok (.ireturn, 1) := by decide +kernel

section
variable {p : Program} {l : Launch} {e : Env} {R : Room} {s : State} {m : MethodId} {args : Array Value} {below : List Frame} {meth : Method} {c : Code} {H : Heap} {locs : List Loc} {Qf : State → Prop}
variable {ls : Array Slot} {D : va_G} {ca : Nat → ClassId} {A : Nat → Prop} {ad : Nat → Nat → Nat} {u : iST}
def v_6_doNotesHold_90 (Q : Int → iST → Prop) (x1 : Int) (u : iST) : Prop :=
  zt 0 (sw (iI u 27 0) (fun u => 
  sw (iI u 28 0) (fun u => 
  zt x1 (Q x1 u))))
set_option maxRecDepth 20000 in
set_option maxHeartbeats 4000000 in
theorem f_6_doNotesHold_90 (X : yX RX6 p m c cX6_doNotesHold 5 s args D ca ad A) (hRf : 10 ≤ R.frames) (hRl : 303 ≤ R.locals) {Q : Int → iST → Prop} (hret : ∀ (v : Int) (u : iST) (H : Heap) (locs : List Loc) (ls : Array Slot) (pc : Nat), bz v → Q v u → yW D ca A ad s H locs u → decode cX6_doNotesHold pc = .ok (.ireturn, 1) → W p l e R s m args below meth c H locs 0 0 Qf (F0 m pc ls [.int (jI v)])) {x1 : Int} (rx1 : inR x1) (hw : yW D ca A ad s H locs u) (hl : lv_has ls 5 [(0, .ref (ad 0 5)), (1, .int (jI x1))]) (h : v_6_doNotesHold_90 Q x1 u) : W p l e R s m args below meth c H locs 0 0 Qf (F0 m 90 ls []) := by
  have hx := X.1.1
  have hb := X.1.2.1
  unfold v_6_doNotesHold_90 at h
  refine lv_aload_n hx hb dX6_doNotesHold_90 rfl (lv_at hl 0 rfl) ?_
  refine lv_iconst hx hb dX6_doNotesHold_91 (v := jI 0) rfl ?_
  refine yp_6_32 X hw dX6_doNotesHold_92 h (fun H locs u hw h => ?_)
  refine lv_aload_n hx hb dX6_doNotesHold_95 rfl (lv_at hl 0 rfl) ?_
  refine lv_iconst hx hb dX6_doNotesHold_96 (v := jI 0) rfl ?_
  refine yp_6_36 X hw (by decide) dX6_doNotesHold_97 h (fun H locs u hw h => ?_)
  refine lv_iload_n hx hb dX6_doNotesHold_100 rfl (lv_at hl 1 rfl) ?_
  exact hret _ _ _ _ _ _ h.1 h.2 hw dX6_doNotesHold_101

def v_6_doNotesHold_9b (R9 : Int → Int → iST → Prop) (Q : Int → iST → Prop) (x1 : Int) (x2 : Int) (u : iST) : Prop :=
  rd (u.1 26) (fun v1 => 
  br (v1 ≤ x2) (
    v_6_doNotesHold_90 Q x1 u) (
    br (x1 = 0) (
      v_6_doNotesHold_90 Q x1 u) (
      ov (x2 + 1) (
      sw (iI u 28 (x2 + 1)) (fun u => 
      bd x2 1000 (
      bd 0 5 (rd (u.2.1 52 (5 * x2 + 0)) (fun v5 => 
      bd 1 5 (rd (u.2.1 52 (5 * x2 + 1)) (fun v6 => 
      bd 2 5 (rd (u.2.1 52 (5 * x2 + 2)) (fun v7 => 
      v_6_rewritten v5 v6 v7 (fun v8 u => 
      rd (u.1 32) (fun v9 => 
      br (v9 ≠ 0) (
        ov (x2 + 1) (
        R9 0 (x2 + 1) u)) (
        bd 3 5 (rd (u.2.1 52 (5 * x2 + 3)) (fun v11 => 
        br (v8 ≠ v11) (
          ov (x2 + 1) (
          R9 0 (x2 + 1) u)) (
          rd (u.1 28) (fun v13 => 
          bd 4 5 (rd (u.2.1 52 (5 * x2 + 4)) (fun v14 => 
          br (v13 ≠ v14) (
            ov (x2 + 1) (
            R9 0 (x2 + 1) u)) (
            ov (x2 + 1) (
            R9 1 (x2 + 1) u))))))))))) u))))))))))))
def v_6_doNotesHold_9 (Q : Int → iST → Prop) (x1 : Int) (x2 : Int) (u : iST) : Prop := ∀ R9 : Int → Int → iST → Prop, (∀ (x1 : Int) (x2 : Int) (u : iST), v_6_doNotesHold_9b R9 Q x1 x2 u → R9 x1 x2 u) → R9 x1 x2 u
set_option maxRecDepth 20000 in
set_option maxHeartbeats 4000000 in
theorem f_6_doNotesHold_9 (X : yX RX6 p m c cX6_doNotesHold 5 s args D ca ad A) (hRf : 10 ≤ R.frames) (hRl : 303 ≤ R.locals) {Q : Int → iST → Prop} (hret : ∀ (v : Int) (u : iST) (H : Heap) (locs : List Loc) (ls : Array Slot) (pc : Nat), bz v → Q v u → yW D ca A ad s H locs u → decode cX6_doNotesHold pc = .ok (.ireturn, 1) → W p l e R s m args below meth c H locs 0 0 Qf (F0 m pc ls [.int (jI v)])) {x1 x2 : Int} (rx1 : inR x1) (rx2 : inR x2) (hw : yW D ca A ad s H locs u) (hl : lv_has ls 5 [(0, .ref (ad 0 5)), (1, .int (jI x1)), (2, .int (jI x2))]) (h : v_6_doNotesHold_9 Q x1 x2 u) : W p l e R s m args below meth c H locs 0 0 Qf (F0 m 9 ls []) := by
  refine h (fun x1 x2 u => ∀ (H : Heap) (locs : List Loc) (ls : Array Slot), inR x1 → inR x2 → yW D ca A ad s H locs u → lv_has ls 5 [(0, .ref (ad 0 5)), (1, .int (jI x1)), (2, .int (jI x2))] → W p l e R s m args below meth c H locs 0 0 Qf (F0 m 9 ls [])) ?_ H locs ls rx1 rx2 hw hl
  clear h hl hw rx1 rx2
  intro x1 x2 u h H locs ls rx1 rx2 hw hl
  have hR9 : ∀ (x1 : Int) (x2 : Int) (u : iST) (H : Heap) (locs : List Loc) (ls : Array Slot), inR x1 → inR x2 → yW D ca A ad s H locs u → lv_has ls 5 [(0, .ref (ad 0 5)), (1, .int (jI x1)), (2, .int (jI x2))] → (fun (x1 : Int) (x2 : Int) u => ∀ (H : Heap) (locs : List Loc) (ls : Array Slot), inR x1 → inR x2 → yW D ca A ad s H locs u → lv_has ls 5 [(0, .ref (ad 0 5)), (1, .int (jI x1)), (2, .int (jI x2))] → W p l e R s m args below meth c H locs 0 0 Qf (F0 m 9 ls [])) x1 x2 u → W p l e R s m args below meth c H locs 0 0 Qf (F0 m 9 ls []) := fun x1 x2 u H locs ls rx1 rx2 hw hl h => h H locs ls rx1 rx2 hw hl
  have hx := X.1.1
  have hb := X.1.2.1
  unfold v_6_doNotesHold_9b at h
  refine lv_iload_n hx hb dX6_doNotesHold_9 rfl (lv_at hl 2 rfl) ?_
  refine lv_aload_n hx hb dX6_doNotesHold_10 rfl (lv_at hl 0 rfl) ?_
  refine yg_6_29 X hw dX6_doNotesHold_11 h (fun v1 rv1 h => ?_)
  refine k_icmp_ge hx hb rx2 rv1 dX6_doNotesHold_14 (tgt := 90) rfl h (fun h => ?_) (fun h => ?_)
  · exact f_6_doNotesHold_90 X hRf hRl hret rx1 hw (lv_sub hl [0, 1] rfl) h
  · refine lv_iload_n hx hb dX6_doNotesHold_17 rfl (lv_at hl 1 rfl) ?_
    refine k_if_eq hx hb rx1 dX6_doNotesHold_18 (tgt := 90) rfl h (fun h => ?_) (fun h => ?_)
    · exact f_6_doNotesHold_90 X hRf hRl hret rx1 hw (lv_sub hl [0, 1] rfl) h
    · refine lv_aload_n hx hb dX6_doNotesHold_21 rfl (lv_at hl 0 rfl) ?_
      refine lv_iload_n hx hb dX6_doNotesHold_22 rfl (lv_at hl 2 rfl) ?_
      refine lv_iconst hx hb dX6_doNotesHold_23 (v := jI 1) rfl ?_
      refine k_iadd hx hb dX6_doNotesHold_24 h (fun r2 h => ?_)
      refine yp_6_36 X hw r2 dX6_doNotesHold_25 h (fun H locs u hw h => ?_)
      refine lv_aload_n hx hb dX6_doNotesHold_28 rfl (lv_at hl 0 rfl) ?_
      refine yg_6_26 X hw dX6_doNotesHold_29 ?_
      refine lv_iload_n hx hb dX6_doNotesHold_32 rfl (lv_at hl 2 rfl) ?_
      have q3 := h
      have r4 : (0 ≤ x2 ∧ x2 < 1000) := ⟨q3.1, by have := q3.2.1; omega⟩
      refine yx_2 X hw rx2 dX6_doNotesHold_33 h (fun h => ?_)
      refine lv_astore_n hx hb dX6_doNotesHold_34 rfl hl (by decide) rfl (fun ls hl => ?_)
      have hl : lv_has ls 5 [(3, .ref (ad 8 x2.toNat)), (0, .ref (ad 0 5)), (1, .int (jI x1)), (2, .int (jI x2))] := hl
      refine lv_aload_n hx hb dX6_doNotesHold_35 rfl (lv_at hl 1 rfl) ?_
      refine lv_aload_n hx hb dX6_doNotesHold_36 rfl (lv_at hl 0 rfl) ?_
      refine lv_iconst hx hb dX6_doNotesHold_37 (v := jI 0) rfl ?_
      refine yfl_notes X hw r4 (by decide) dX6_doNotesHold_38 h (fun v5 rv5 h => ?_)
      refine lv_aload_n hx hb dX6_doNotesHold_39 rfl (lv_at hl 0 rfl) ?_
      refine lv_iconst hx hb dX6_doNotesHold_40 (v := jI 1) rfl ?_
      refine yfl_notes X hw r4 (by decide) dX6_doNotesHold_41 h (fun v6 rv6 h => ?_)
      refine lv_aload_n hx hb dX6_doNotesHold_42 rfl (lv_at hl 0 rfl) ?_
      refine lv_iconst hx hb dX6_doNotesHold_43 (v := jI 2) rfl ?_
      refine yfl_notes X hw r4 (by decide) dX6_doNotesHold_44 h (fun v7 rv7 h => ?_)
      refine ycI (n := 3) (e_6_rewritten rv5 rv6 rv7 h) 6 5 (r := (RX6, TX6, 14)) rfl yG_6_295 yD_6_rewritten X hw rfl yGo_6 (Nat.le_trans (Nat.le_of_ble_eq_true rfl) hRf) (Nat.le_trans (Nat.le_of_ble_eq_true rfl) hRl) rfl hl.1 (Nat.le_of_ble_eq_true rfl) rfl dX6_doNotesHold_45 (fun v8 u H locs rv8 h hw => ?_)
      refine lv_istore hx hb dX6_doNotesHold_48 hl (by decide) rfl (fun ls hl => ?_)
      have hl : lv_has ls 5 [(4, .int (jI v8)), (3, .ref (ad 8 x2.toNat)), (0, .ref (ad 0 5)), (1, .int (jI x1)), (2, .int (jI x2))] := hl
      refine lv_aload_n hx hb dX6_doNotesHold_50 rfl (lv_at hl 2 rfl) ?_
      refine yg_6_39 X hw dX6_doNotesHold_51 ?_
      refine yg_6_77 X hw dX6_doNotesHold_54 h (fun v9 rv9 h => ?_)
      refine k_if_ne hx hb rv9 dX6_doNotesHold_57 (tgt := 82) rfl h (fun h => ?_) (fun h => ?_)
      · refine lv_iconst hx hb dX6_doNotesHold_82 (v := jI 0) rfl ?_
        refine lv_istore_n hx hb dX6_doNotesHold_83 rfl hl (by decide) rfl (fun ls hl => ?_)
        have hl : lv_has ls 5 [(1, .int (jI 0)), (4, .int (jI v8)), (3, .ref (ad 8 x2.toNat)), (0, .ref (ad 0 5)), (2, .int (jI x2))] := hl
        refine k_iinc (k := 4) hx hb dX6_doNotesHold_84 hl rfl (by decide) rfl h (fun ls r10 h hl => ?_)
        have hl : lv_has ls 5 [(2, .int (jI (x2 + 1))), (1, .int (jI 0)), (4, .int (jI v8)), (3, .ref (ad 8 x2.toNat)), (0, .ref (ad 0 5))] := hl
        refine lv_goto hx hb dX6_doNotesHold_87 (tgt := 9) rfl ?_
        exact hR9 _ _ _ H locs ls (by decide) r10 hw (lv_sub hl [4, 1, 0] rfl) h
      · refine lv_iload hx hb dX6_doNotesHold_60 (lv_at hl 0 rfl) ?_
        refine lv_aload_n hx hb dX6_doNotesHold_62 rfl (lv_at hl 1 rfl) ?_
        refine lv_iconst hx hb dX6_doNotesHold_63 (v := jI 3) rfl ?_
        refine yfl_notes X hw r4 (by decide) dX6_doNotesHold_64 h (fun v11 rv11 h => ?_)
        refine k_icmp_ne hx hb rv8 rv11 dX6_doNotesHold_65 (tgt := 82) rfl h (fun h => ?_) (fun h => ?_)
        · refine lv_iconst hx hb dX6_doNotesHold_82 (v := jI 0) rfl ?_
          refine lv_istore_n hx hb dX6_doNotesHold_83 rfl hl (by decide) rfl (fun ls hl => ?_)
          have hl : lv_has ls 5 [(1, .int (jI 0)), (4, .int (jI v8)), (3, .ref (ad 8 x2.toNat)), (0, .ref (ad 0 5)), (2, .int (jI x2))] := hl
          refine k_iinc (k := 4) hx hb dX6_doNotesHold_84 hl rfl (by decide) rfl h (fun ls r12 h hl => ?_)
          have hl : lv_has ls 5 [(2, .int (jI (x2 + 1))), (1, .int (jI 0)), (4, .int (jI v8)), (3, .ref (ad 8 x2.toNat)), (0, .ref (ad 0 5))] := hl
          refine lv_goto hx hb dX6_doNotesHold_87 (tgt := 9) rfl ?_
          exact hR9 _ _ _ H locs ls (by decide) r12 hw (lv_sub hl [4, 1, 0] rfl) h
        · refine lv_aload_n hx hb dX6_doNotesHold_68 rfl (lv_at hl 2 rfl) ?_
          refine yg_6_36 X hw dX6_doNotesHold_69 h (fun v13 rv13 h => ?_)
          refine lv_aload_n hx hb dX6_doNotesHold_72 rfl (lv_at hl 1 rfl) ?_
          refine lv_iconst hx hb dX6_doNotesHold_73 (v := jI 4) rfl ?_
          refine yfl_notes X hw r4 (by decide) dX6_doNotesHold_74 h (fun v14 rv14 h => ?_)
          refine k_icmp_ne hx hb rv13 rv14 dX6_doNotesHold_75 (tgt := 82) rfl h (fun h => ?_) (fun h => ?_)
          · refine lv_iconst hx hb dX6_doNotesHold_82 (v := jI 0) rfl ?_
            refine lv_istore_n hx hb dX6_doNotesHold_83 rfl hl (by decide) rfl (fun ls hl => ?_)
            have hl : lv_has ls 5 [(1, .int (jI 0)), (4, .int (jI v8)), (3, .ref (ad 8 x2.toNat)), (0, .ref (ad 0 5)), (2, .int (jI x2))] := hl
            refine k_iinc (k := 4) hx hb dX6_doNotesHold_84 hl rfl (by decide) rfl h (fun ls r15 h hl => ?_)
            have hl : lv_has ls 5 [(2, .int (jI (x2 + 1))), (1, .int (jI 0)), (4, .int (jI v8)), (3, .ref (ad 8 x2.toNat)), (0, .ref (ad 0 5))] := hl
            refine lv_goto hx hb dX6_doNotesHold_87 (tgt := 9) rfl ?_
            exact hR9 _ _ _ H locs ls (by decide) r15 hw (lv_sub hl [4, 1, 0] rfl) h
          · refine lv_iconst hx hb dX6_doNotesHold_78 (v := jI 1) rfl ?_
            refine lv_goto hx hb dX6_doNotesHold_79 (tgt := 83) rfl ?_
            refine lv_istore_n hx hb dX6_doNotesHold_83 rfl hl (by decide) rfl (fun ls hl => ?_)
            have hl : lv_has ls 5 [(1, .int (jI 1)), (4, .int (jI v8)), (3, .ref (ad 8 x2.toNat)), (0, .ref (ad 0 5)), (2, .int (jI x2))] := hl
            refine k_iinc (k := 4) hx hb dX6_doNotesHold_84 hl rfl (by decide) rfl h (fun ls r16 h hl => ?_)
            have hl : lv_has ls 5 [(2, .int (jI (x2 + 1))), (1, .int (jI 1)), (4, .int (jI v8)), (3, .ref (ad 8 x2.toNat)), (0, .ref (ad 0 5))] := hl
            refine lv_goto hx hb dX6_doNotesHold_87 (tgt := 9) rfl ?_
            exact hR9 _ _ _ H locs ls (by decide) r16 hw (lv_sub hl [4, 1, 0] rfl) h

def v_6_doNotesHold (Q : Int → iST → Prop) (u : iST) : Prop :=
  zt 1 (sw (iI u 27 1) (fun u => 
  v_6_doNotesHold_9 Q 1 0 u))
set_option maxRecDepth 20000 in
set_option maxHeartbeats 4000000 in
theorem f_6_doNotesHold_s (X : yX RX6 p m c cX6_doNotesHold 5 s args D ca ad A) (hRf : 10 ≤ R.frames) (hRl : 303 ≤ R.locals) {Q : Int → iST → Prop} (hret : ∀ (v : Int) (u : iST) (H : Heap) (locs : List Loc) (ls : Array Slot) (pc : Nat), bz v → Q v u → yW D ca A ad s H locs u → decode cX6_doNotesHold pc = .ok (.ireturn, 1) → W p l e R s m args below meth c H locs 0 0 Qf (F0 m pc ls [.int (jI v)])) (hw : yW D ca A ad s H locs u) (hl : lv_has ls 5 [(0, .ref (ad 0 5))]) (h : v_6_doNotesHold Q u) : W p l e R s m args below meth c H locs 0 0 Qf (F0 m 0 ls []) := by
  have hx := X.1.1
  have hb := X.1.2.1
  unfold v_6_doNotesHold at h
  refine lv_iconst hx hb dX6_doNotesHold_0 (v := jI 1) rfl ?_
  refine lv_istore_n hx hb dX6_doNotesHold_1 rfl hl (by decide) rfl (fun ls hl => ?_)
  have hl : lv_has ls 5 [(1, .int (jI 1)), (0, .ref (ad 0 5))] := hl
  refine lv_aload_n hx hb dX6_doNotesHold_2 rfl (lv_at hl 1 rfl) ?_
  refine lv_iconst hx hb dX6_doNotesHold_3 (v := jI 1) rfl ?_
  refine yp_6_32 X hw dX6_doNotesHold_4 h (fun H locs u hw h => ?_)
  refine lv_iconst hx hb dX6_doNotesHold_7 (v := jI 0) rfl ?_
  refine lv_istore_n hx hb dX6_doNotesHold_8 rfl hl (by decide) rfl (fun ls hl => ?_)
  have hl : lv_has ls 5 [(2, .int (jI 0)), (1, .int (jI 1)), (0, .ref (ad 0 5))] := hl
  exact f_6_doNotesHold_9 X hRf hRl hret (by decide) (by decide) hw (lv_sub hl [2, 1, 0] rfl) h

end
theorem e_6_doNotesHold {l : Launch} {Q : Int → iST → Prop} {u : iST} (h : v_6_doNotesHold Q u) : yMI l yX6_doNotesHold (.code yX6_doNotesHold cX6_doNotesHold 5 (some .boolean) :: wsN) { frames := 10, cells := 0, slots := 0, locals := 303 } (fun ad => [.ref (ad 0 5)]) Q u := yMZ_of (own := RX6) rfl (by decide +kernel) (fun _ => Nat.le_of_ble_eq_true rfl) (fun X hRf hRl hret hw hl => f_6_doNotesHold_s X hRf hRl hret hw hl h)
