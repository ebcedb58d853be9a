/-! recheck -/
theorem dX12_recheck_0 : decode cX12_recheck 0 = .ok (.aload_n 0, 1) := by decide +kernel
theorem dX12_recheck_1 : decode cX12_recheck 1 = .ok (.getfield 779, 3) := by decide +kernel
theorem dX12_recheck_4 : decode cX12_recheck 4 = .ok (.ireturn, 1) := by decide +kernel

section
variable {p : Program} {l : Launch} {e : Env} {R : Room} {s : State} {m : MethodId} {args : Array Value} {below : List Frame} {meth : Method} {c : Code} {H : Heap} {locs : List Loc} {Qf : State → Prop}
variable {ls : Array Slot} {D : va_G} {ca : Nat → ClassId} {A : Nat → Prop} {h0 : Nat} {ad : Nat → Nat} {H0 : Heap} {u : iST}
def w_recheck (Q : Int → iST → Prop) (u : iST) : Prop :=
  rz (u.1 62) (fun v1 => 
  zt v1 (Q v1 u))
set_option maxRecDepth 20000 in
set_option maxHeartbeats 4000000 in
theorem b_recheck_s (X : kX p m c cX12_recheck 1 s args D ca) (hRf : 0 ≤ R.frames) (hRl : 0 ≤ R.locals) {Q : Int → iST → Prop} (hret : ∀ (v : Int) (u : iST) (H : Heap) (locs : List Loc) (ls : Array Slot) (pc : Nat), bz v → Q v u → kW D ca A h0 ad H0 H locs u → decode cX12_recheck pc = .ok (.ireturn, 1) → W p l e R s m args below meth c H locs 0 0 Qf (F0 m pc ls [.int (jI v)])) (hw : kW D ca A h0 ad H0 H locs u) (hl : lv_has ls 1 [(0, .ref h0)]) (h : w_recheck Q u) : W p l e R s m args below meth c H locs 0 0 Qf (F0 m 0 ls []) := by
  have hx := X.1.1
  have hb := X.1.2.1
  unfold w_recheck at h
  refine lv_aload_n hx hb dX12_recheck_0 rfl (lv_at hl 0 rfl) ?_
  refine gZ 62 779 (by decide) L_62 (fun _ _ => mF_62) rfl (by decide) X hw dX12_recheck_1 h (fun v1 rv1 h => ?_)
  exact hret _ _ _ _ _ _ h.1 h.2 hw dX12_recheck_4

end
theorem c_recheck {l : Launch} {Q : Int → iST → Prop} {u : iST} (h : w_recheck Q u) : kMI l yX12_recheck (.code yX12_recheck cX12_recheck 1 (some .boolean) :: wsM) { frames := 0, cells := 0, slots := 0, locals := 0 } [] Q u := kMZ_of rfl (fun _ => Nat.le_of_ble_eq_true rfl) (fun X hRf hRl hret hw hl => b_recheck_s X hRf hRl hret hw hl h)
