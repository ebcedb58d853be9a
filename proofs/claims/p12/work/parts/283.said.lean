/-! said -/
theorem dX12_said_0 : decode cX12_said 0 = .ok (.aload_n 0, 1) := by decide +kernel
theorem dX12_said_1 : decode cX12_said 1 = .ok (.iconst 0, 1) := by decide +kernel
theorem dX12_said_2 : decode cX12_said 2 = .ok (.putfield 309, 3) := by decide +kernel
theorem dX12_said_5 : decode cX12_said 5 = .ok (.aload_n 0, 1) := by decide +kernel
theorem dX12_said_6 : decode cX12_said 6 = .ok (.iload_n 1, 1) := by decide +kernel
theorem dX12_said_7 : decode cX12_said 7 = .ok (.invokevirtual 312, 3) := by decide +kernel
theorem dX12_said_10 : decode cX12_said 10 = .ok (.aload_n 0, 1) := by decide +kernel
theorem dX12_said_11 : decode cX12_said 11 = .ok (.iload_n 2, 1) := by decide +kernel
theorem dX12_said_12 : decode cX12_said 12 = .ok (.invokevirtual 312, 3) := by decide +kernel
theorem dX12_said_15 : decode cX12_said 15 = .ok (.aload_n 0, 1) := by decide +kernel
theorem dX12_said_16 : decode cX12_said 16 = .ok (.iload_n 3, 1) := by decide +kernel
theorem dX12_said_17 : decode cX12_said 17 = .ok (.invokevirtual 312, 3) := by decide +kernel
theorem dX12_said_20 : decode cX12_said 20 = .ok (.aload_n 0, 1) := by decide +kernel
theorem dX12_said_21 : decode cX12_said 21 = .ok (.iload 4, 2) := by decide +kernel
theorem dX12_said_23 : decode cX12_said 23 = .ok (.invokevirtual 312, 3) := by decide +kernel
theorem dX12_said_26 : decode cX12_said 26 = .ok (.aload_n 0, 1) := by decide +kernel
theorem dX12_said_27 : decode cX12_said 27 = .ok (.iload 5, 2) := by decide +kernel
theorem dX12_said_29 : decode cX12_said 29 = .ok (.invokevirtual 312, 3) := by decide +kernel
theorem dX12_said_32 : decode cX12_said 32 = .ok (.aload_n 0, 1) := by decide +kernel
theorem dX12_said_33 : decode cX12_said 33 = .ok (.iload 6, 2) := by decide +kernel
theorem dX12_said_35 : decode cX12_said 35 = .ok (.invokevirtual 312, 3) := by decide +kernel
theorem dX12_said_38 : decode cX12_said 38 = .ok (.aload_n 0, 1) := by decide +kernel
theorem dX12_said_39 : decode cX12_said 39 = .ok (.iload 7, 2) := by decide +kernel
theorem dX12_said_41 : decode cX12_said 41 = .ok (.invokevirtual 312, 3) := by decide +kernel
theorem dX12_said_44 : decode cX12_said 44 = .ok (.aload_n 0, 1) := by decide +kernel
theorem dX12_said_45 : decode cX12_said 45 = .ok (.iload 8, 2) := by decide +kernel
theorem dX12_said_47 : decode cX12_said 47 = .ok (.invokevirtual 312, 3) := by decide +kernel
theorem dX12_said_50 : decode cX12_said 50 = .ok (.aload_n 0, 1) := by decide +kernel
theorem dX12_said_51 : decode cX12_said 51 = .ok (.invokevirtual 316, 3) := by decide +kernel
theorem dX12_said_54 : decode cX12_said 54 = .ok (.istore 9, 2) := by decide +kernel
theorem dX12_said_56 : decode cX12_said 56 = .ok (.return_, 1) := by decide +kernel

section
variable {p : Program} {l : Launch} {e : Env} {R : Room} {s : State} {m : MethodId} {args : Array Value} {below : List Frame} {meth : Method} {c : Code} {H : Heap} {locs : List Loc} {Qf : State → Prop}
variable {ls : Array Slot} {D : va_G} {ca : Nat → ClassId} {A : Nat → Prop} {h0 : Nat} {ad : Nat → Nat} {H0 : Heap} {u : iST}
def w_said (a0 : Int) (a1 : Int) (a2 : Int) (a3 : Int) (a4 : Int) (a5 : Int) (a6 : Int) (a7 : Int) (Q : iST → Prop) (u : iST) : Prop :=
  sw (iI u 18 0) (fun u => 
  w_spell a0 (fun u => 
  w_spell a1 (fun u => 
  w_spell a2 (fun u => 
  w_spell a3 (fun u => 
  w_spell a4 (fun u => 
  w_spell a5 (fun u => 
  w_spell a6 (fun u => 
  w_spell a7 (fun u => 
  w_symbol (fun v9 u => 
  Q u) u) u) u) u) u) u) u) u) u)
set_option maxRecDepth 20000 in
set_option maxHeartbeats 4000000 in
theorem b_said_s (X : kX p m c cX12_said 10 s args D ca) (hRf : 2 ≤ R.frames) (hRl : 47 ≤ R.locals) {Q : iST → Prop} (hret : ∀ (u : iST) (H : Heap) (locs : List Loc) (ls : Array Slot) (pc : Nat), Q u → kW D ca A h0 ad H0 H locs u → decode cX12_said pc = .ok (.return_, 1) → W p l e R s m args below meth c H locs 0 0 Qf (F0 m pc ls [])) {a0 a1 a2 a3 a4 a5 a6 a7 : Int} (ra0 : inR a0) (ra1 : inR a1) (ra2 : inR a2) (ra3 : inR a3) (ra4 : inR a4) (ra5 : inR a5) (ra6 : inR a6) (ra7 : inR a7) (hw : kW D ca A h0 ad H0 H locs u) (hl : lv_has ls 10 [(0, .ref h0), (1, .int (jI a0)), (2, .int (jI a1)), (3, .int (jI a2)), (4, .int (jI a3)), (5, .int (jI a4)), (6, .int (jI a5)), (7, .int (jI a6)), (8, .int (jI a7))]) (h : w_said a0 a1 a2 a3 a4 a5 a6 a7 Q u) : W p l e R s m args below meth c H locs 0 0 Qf (F0 m 0 ls []) := by
  have hx := X.1.1
  have hb := X.1.2.1
  unfold w_said at h
  refine lv_aload_n hx hb dX12_said_0 rfl (lv_at hl 0 rfl) ?_
  refine lv_iconst hx hb dX12_said_1 (v := jI 0) rfl ?_
  refine pS 18 309 (by decide) L_18 rfl rfl rfl (fun _ _ _ _ _ => mSI_18) (by decide) X hw (by decide) dX12_said_2 h (fun H locs u hw h => ?_)
  refine lv_aload_n hx hb dX12_said_5 rfl (lv_at hl 0 rfl) ?_
  refine lv_iload_n hx hb dX12_said_6 rfl (lv_at hl 1 rfl) ?_
  refine kcV (n := 1) (c_spell ra0 h) G_spell E_spell X hw (Nat.le_trans (Nat.le_of_ble_eq_true rfl) hRf) (Nat.le_trans (Nat.le_of_ble_eq_true rfl) hRl) rfl hl.1 (Nat.le_of_ble_eq_true rfl) rfl dX12_said_7 (fun u H locs h hw => ?_)
  refine lv_aload_n hx hb dX12_said_10 rfl (lv_at hl 0 rfl) ?_
  refine lv_iload_n hx hb dX12_said_11 rfl (lv_at hl 2 rfl) ?_
  refine kcV (n := 1) (c_spell ra1 h) G_spell E_spell X hw (Nat.le_trans (Nat.le_of_ble_eq_true rfl) hRf) (Nat.le_trans (Nat.le_of_ble_eq_true rfl) hRl) rfl hl.1 (Nat.le_of_ble_eq_true rfl) rfl dX12_said_12 (fun u H locs h hw => ?_)
  refine lv_aload_n hx hb dX12_said_15 rfl (lv_at hl 0 rfl) ?_
  refine lv_iload_n hx hb dX12_said_16 rfl (lv_at hl 3 rfl) ?_
  refine kcV (n := 1) (c_spell ra2 h) G_spell E_spell X hw (Nat.le_trans (Nat.le_of_ble_eq_true rfl) hRf) (Nat.le_trans (Nat.le_of_ble_eq_true rfl) hRl) rfl hl.1 (Nat.le_of_ble_eq_true rfl) rfl dX12_said_17 (fun u H locs h hw => ?_)
  refine lv_aload_n hx hb dX12_said_20 rfl (lv_at hl 0 rfl) ?_
  refine lv_iload hx hb dX12_said_21 (lv_at hl 4 rfl) ?_
  refine kcV (n := 1) (c_spell ra3 h) G_spell E_spell X hw (Nat.le_trans (Nat.le_of_ble_eq_true rfl) hRf) (Nat.le_trans (Nat.le_of_ble_eq_true rfl) hRl) rfl hl.1 (Nat.le_of_ble_eq_true rfl) rfl dX12_said_23 (fun u H locs h hw => ?_)
  refine lv_aload_n hx hb dX12_said_26 rfl (lv_at hl 0 rfl) ?_
  refine lv_iload hx hb dX12_said_27 (lv_at hl 5 rfl) ?_
  refine kcV (n := 1) (c_spell ra4 h) G_spell E_spell X hw (Nat.le_trans (Nat.le_of_ble_eq_true rfl) hRf) (Nat.le_trans (Nat.le_of_ble_eq_true rfl) hRl) rfl hl.1 (Nat.le_of_ble_eq_true rfl) rfl dX12_said_29 (fun u H locs h hw => ?_)
  refine lv_aload_n hx hb dX12_said_32 rfl (lv_at hl 0 rfl) ?_
  refine lv_iload hx hb dX12_said_33 (lv_at hl 6 rfl) ?_
  refine kcV (n := 1) (c_spell ra5 h) G_spell E_spell X hw (Nat.le_trans (Nat.le_of_ble_eq_true rfl) hRf) (Nat.le_trans (Nat.le_of_ble_eq_true rfl) hRl) rfl hl.1 (Nat.le_of_ble_eq_true rfl) rfl dX12_said_35 (fun u H locs h hw => ?_)
  refine lv_aload_n hx hb dX12_said_38 rfl (lv_at hl 0 rfl) ?_
  refine lv_iload hx hb dX12_said_39 (lv_at hl 7 rfl) ?_
  refine kcV (n := 1) (c_spell ra6 h) G_spell E_spell X hw (Nat.le_trans (Nat.le_of_ble_eq_true rfl) hRf) (Nat.le_trans (Nat.le_of_ble_eq_true rfl) hRl) rfl hl.1 (Nat.le_of_ble_eq_true rfl) rfl dX12_said_41 (fun u H locs h hw => ?_)
  refine lv_aload_n hx hb dX12_said_44 rfl (lv_at hl 0 rfl) ?_
  refine lv_iload hx hb dX12_said_45 (lv_at hl 8 rfl) ?_
  refine kcV (n := 1) (c_spell ra7 h) G_spell E_spell X hw (Nat.le_trans (Nat.le_of_ble_eq_true rfl) hRf) (Nat.le_trans (Nat.le_of_ble_eq_true rfl) hRl) rfl hl.1 (Nat.le_of_ble_eq_true rfl) rfl dX12_said_47 (fun u H locs h hw => ?_)
  refine lv_aload_n hx hb dX12_said_50 rfl (lv_at hl 0 rfl) ?_
  refine kcI (n := 0) (c_symbol h) G_symbol E_symbol X hw (Nat.le_trans (Nat.le_of_ble_eq_true rfl) hRf) (Nat.le_trans (Nat.le_of_ble_eq_true rfl) hRl) rfl hl.1 (Nat.le_of_ble_eq_true rfl) rfl dX12_said_51 (fun v9 u H locs rv9 h hw => ?_)
  refine lv_istore hx hb dX12_said_54 hl (by decide) rfl (fun ls hl => ?_)
  have hl : lv_has ls 10 [(9, .int (jI v9)), (0, .ref (h0)), (1, .int (jI a0)), (2, .int (jI a1)), (3, .int (jI a2)), (4, .int (jI a3)), (5, .int (jI a4)), (6, .int (jI a5)), (7, .int (jI a6)), (8, .int (jI a7))] := hl
  exact hret _ _ _ _ _ h hw dX12_said_56

end
theorem c_said {l : Launch} {a0 : Int} {a1 : Int} {a2 : Int} {a3 : Int} {a4 : Int} {a5 : Int} {a6 : Int} {a7 : Int} (ra0 : inR a0) (ra1 : inR a1) (ra2 : inR a2) (ra3 : inR a3) (ra4 : inR a4) (ra5 : inR a5) (ra6 : inR a6) (ra7 : inR a7) {Q : iST → Prop} {u : iST} (h : w_said a0 a1 a2 a3 a4 a5 a6 a7 Q u) : kMV l yX12_said (.code yX12_said cX12_said 10 none :: wsM) { frames := 2, cells := 0, slots := 0, locals := 47 } [.int (jI a0), .int (jI a1), .int (jI a2), .int (jI a3), .int (jI a4), .int (jI a5), .int (jI a6), .int (jI a7)] Q u := kMV_of rfl (fun _ => Nat.le_of_ble_eq_true rfl) (fun X hRf hRl hret hw hl => b_said_s X hRf hRl hret ra0 ra1 ra2 ra3 ra4 ra5 ra6 ra7 hw hl h)
