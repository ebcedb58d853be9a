/-! texts and fill (rows that are still owed) -/
def ri (P : Int → Prop) : Prop := ∀ v, (-1 ≤ v ∧ v < 47) → P v
def rk (P : Int → Prop) : Prop := ∀ v, inC v → P v
def rw5 (u : iST) (r : Nat) (n x : Int) (P : iST → Prop) : Prop := ∀ f : Int → Int, (∀ i, inR (f i)) → (∀ i, 0 ≤ i → i < n → f i = x) → P (iRw u r f)
section
variable {p : Program} {l : Launch} {e : Env} {R : Room} {s : State} {m : MethodId} {args : Array Value} {below : List Frame} {meth : Method} {c : Code} {H : Heap} {locs : List Loc} {Q : State → Prop}
variable {cc : ByteArray} {pc nL : Nat} {ls : Array Slot} {rest : List Value} {D : va_G} {ca : Nat → ClassId} {A : Nat → Prop} {ad : Nat → Nat → Nat} {u : iST} {own : String}
theorem ySt_5_64 (X : yX RX5 p m c cc nL s args D ca ad A) (hw : yW D ca A ad s H locs u) (d : decode cc pc = .ok (.ldc 64, 2)) (kk : W p l e R s m args below meth c H locs 0 0 Q (F0 m (pc + 2) ls (.ref (ad 14 0) :: rest))) : W p l e R s m args below meth c H locs 0 0 Q (F0 m pc ls (rest)) := by
  sorry
theorem ySt_9_65 (X : yX RX9 p m c cc nL s args D ca ad A) (hw : yW D ca A ad s H locs u) (d : decode cc pc = .ok (.ldc 65, 2)) (kk : W p l e R s m args below meth c H locs 0 0 Q (F0 m (pc + 2) ls (.ref (ad 14 0) :: rest))) : W p l e R s m args below meth c H locs 0 0 Q (F0 m pc ls (rest)) := by
  sorry
theorem yIdx_5_66 (X : yX RX5 p m c cc nL s args D ca ad A) (hw : yW D ca A ad s H locs u) {a : Int} (ra : inR a) (hls : ls.size = nL) (hst : (rest.map fun v => v.category).sum ≤ 8) (hRf : 6 ≤ R.frames) (hRl : 200 ≤ R.locals) (d : decode cc pc = .ok (.invokevirtual 66, 3)) {P : Int → Prop} (h : ri P) (kk : ∀ v (H : Heap) (locs : List Loc), inR v → yW D ca A ad s H locs u → P v → W p l e R s m args below meth c H locs 0 0 Q (F0 m (pc + 3) ls (.int (jI v) :: rest))) : W p l e R s m args below meth c H locs 0 0 Q (F0 m pc ls (.int (jI a) :: .ref (ad 14 0) :: rest)) := by
  sorry
theorem yChr_9_67 (X : yX RX9 p m c cc nL s args D ca ad A) (hw : yW D ca A ad s H locs u) {i : Int} (ri : inR i) (hls : ls.size = nL) (hst : (rest.map fun v => v.category).sum ≤ 8) (hRf : 6 ≤ R.frames) (hRl : 200 ≤ R.locals) (d : decode cc pc = .ok (.invokevirtual 67, 3)) {P : Int → Prop} (h : bd i 47 (rk P)) (kk : ∀ v (H : Heap) (locs : List Loc), inC v → yW D ca A ad s H locs u → P v → W p l e R s m args below meth c H locs 0 0 Q (F0 m (pc + 3) ls (.int (jI v) :: rest))) : W p l e R s m args below meth c H locs 0 0 Q (F0 m pc ls (.int (jI i) :: .ref (ad 14 0) :: rest)) := by
  sorry
theorem yFill_11_137 (X : yX RX11 p m c cc nL s args D ca ad A) (hw : yW D ca A ad s H locs u) {v : Int} (rv : inR v) (hls : ls.size = nL) (hst : (rest.map fun v => v.category).sum ≤ 8) (hRf : 6 ≤ R.frames) (hRl : 200 ≤ R.locals) (d : decode cc pc = .ok (.invokestatic 137, 3)) {P : iST → Prop} (h : rw5 u 45 5 v P) (kk : ∀ (H : Heap) (locs : List Loc) (u : iST), yW D ca A ad s H locs u → P u → W p l e R s m args below meth c H locs 0 0 Q (F0 m (pc + 3) ls (rest))) : W p l e R s m args below meth c H locs 0 0 Q (F0 m pc ls (.int (jI v) :: .ref (ad 1 45) :: rest)) := by
  sorry
end
