section
variable {p : Program} {l : Launch} {e : Env} {R : Room} {s : State} {m : MethodId} {args : Array Value} {below : List Frame} {meth : Method} {c : Code} {H : Heap} {locs : List Loc} {Q : State → Prop}
variable {cc : ByteArray} {pc nL : Nat} {ls : Array Slot} {rest : List Value} {D : va_G} {ca : Nat → ClassId} {A : Nat → Prop} {ad : Nat → Nat → Nat} {u : iST} {own : String}
theorem jI_nat (n : Nat) : jI (n : Int) = Int32.ofNat n := by
  rw [← Int32.toBitVec_inj]
  apply BitVec.eq_of_toNat_eq
  show (BitVec.ofInt 32 (n : Int)).toNat = (BitVec.ofNat 32 n).toNat
  rw [BitVec.ofInt_natCast]
theorem va_aldr {cl : List vw_C} {tys : List (ClassId × FieldType)} {ws : va_W} {a : Nat} (hexec : p.tables.exec = Jvm.exec) (hb : c.code = cc) (hK : va_K D cl tys s) (hP : va_P D cl ws H) (q0 t0 : Nat) {cA : ClassId} {n : Nat} {f : Nat → Option Nat} (ha : ws[q0]? = some (a, .inl (cA, n, .inr (.inr (.inr (.inr f)))))) (ht : tys[t0]? = some (cA, .array .int)) {i : Int32} (hin : vp_in i n) (hdg : decode cc pc = .ok (.aaload, 1))
    (kk : W p l e R s m args below meth c H locs 0 0 Q (F0 m (pc + 1) ls (va_rf (f i.toNatClampNeg) :: rest))) : W p l e R s m args below meth c H locs 0 0 Q (F0 m pc ls (.int i :: .ref a :: rest)) := by
  have hlt : i.toNatClampNeg < n := Nat.not_le.mp fun q => hin (Or.inr q)
  exact W.aald (v := va_rf (f i.toNatClampNeg)) (ty := .array .int) hexec hb (hP q0 _ ha) ((hK.2 t0 _ ht).1 n (fun j => va_rf (f j))) rfl (fun q => by cases q) (by show ¬ (i < 0 ∨ (arrV _ _ _).slots.size ≤ _); rw [arrV_size]; exact hin) (by show (arrV _ _ _).slots[_]? = _; rw [arrV_read _ _ hlt]) rfl rfl hdg kk
theorem yl_0 (X : yX own p m c cc nL s args D ca ad A) (hw : yW D ca A ad s H locs u) {i : Int} (ri : inR i) (d : decode cc pc = .ok (.iaload, 1)) {P : Int → Prop} (h : bd i 40 (rd (u.2.1 0 i) P)) (kk : ∀ v, inR v → P v → W p l e R s m args below meth c H locs 0 0 Q (F0 m (pc + 1) ls (.int (jI v) :: rest))) : W p l e R s m args below meth c H locs 0 0 Q (F0 m pc ls (.int (jI i) :: .ref (ad 1 0) :: rest)) := by
  refine va_iald X.1.1 X.1.2.1 X.2.1 hw.1 10 0 yGa_0 rfl (jI_in rfl h.1 h.2.1 ri) d ?_
  rw [jI_cl ri, Int.toNat_of_nonneg h.1]
  exact kk _ (hw.2.2.2.1.2.1 0 i) (h.2.2 _ rfl (hw.2.2.2.1.2.1 0 i))
theorem yt_0 (X : yX own p m c cc nL s args D ca ad A) (hw : yW D ca A ad s H locs u) {i v : Int} (ri : inR i) (hv : inR v) (d : decode cc pc = .ok (.iastore, 1)) {P : iST → Prop} (h : bd i 40 (sw (iA u 0 i v) P)) (kk : ∀ (H : Heap) (locs : List Loc) (u : iST), yW D ca A ad s H locs u → P u → W p l e R s m args below meth c H locs 0 0 Q (F0 m (pc + 1) ls (rest))) : W p l e R s m args below meth c H locs 0 0 Q (F0 m pc ls (.int (jI v) :: .int (jI i) :: .ref (ad 1 0) :: rest)) := by
  refine va_iast X.1.1 X.1.2.1 X.2.1 hw.1 hw.2.1 hw.2.2.1 10 0 yGa_0 rfl (jI_in rfl h.1 h.2.1 ri) d (fun H locs hP hD hS => ?_)
  rw [jI_cl ri, yPa_0 h.1] at hP hD
  exact kk H locs _ ⟨hP, hD, hS, yR_A hw.2.2.2.1 0 i hv (fun q => absurd q (by decide)) (fun q => absurd q (by decide)) (fun q => absurd q (by decide)), hw.2.2.2.2⟩ (h.2.2 _ rfl)
theorem yn_0 (X : yX own p m c cc nL s args D ca ad A) (hw : yW D ca A ad s H locs u) (d : decode cc pc = .ok (.arraylength, 1)) (kk : W p l e R s m args below meth c H locs 0 0 Q (F0 m (pc + 1) ls (.int (jI 40) :: rest))) : W p l e R s m args below meth c H locs 0 0 Q (F0 m pc ls (.ref (ad 1 0) :: rest)) :=
  va_alen X.1.1 X.1.2.1 X.2.1 hw.1 10 0 yGa_0 rfl rfl d kk
theorem yl_1 (X : yX own p m c cc nL s args D ca ad A) (hw : yW D ca A ad s H locs u) {i : Int} (ri : inR i) (d : decode cc pc = .ok (.iaload, 1)) {P : Int → Prop} (h : bd i 40 (rd (u.2.1 1 i) P)) (kk : ∀ v, inR v → P v → W p l e R s m args below meth c H locs 0 0 Q (F0 m (pc + 1) ls (.int (jI v) :: rest))) : W p l e R s m args below meth c H locs 0 0 Q (F0 m pc ls (.int (jI i) :: .ref (ad 1 1) :: rest)) := by
  refine va_iald X.1.1 X.1.2.1 X.2.1 hw.1 11 0 yGa_1 rfl (jI_in rfl h.1 h.2.1 ri) d ?_
  rw [jI_cl ri, Int.toNat_of_nonneg h.1]
  exact kk _ (hw.2.2.2.1.2.1 1 i) (h.2.2 _ rfl (hw.2.2.2.1.2.1 1 i))
theorem yt_1 (X : yX own p m c cc nL s args D ca ad A) (hw : yW D ca A ad s H locs u) {i v : Int} (ri : inR i) (hv : inR v) (d : decode cc pc = .ok (.iastore, 1)) {P : iST → Prop} (h : bd i 40 (sw (iA u 1 i v) P)) (kk : ∀ (H : Heap) (locs : List Loc) (u : iST), yW D ca A ad s H locs u → P u → W p l e R s m args below meth c H locs 0 0 Q (F0 m (pc + 1) ls (rest))) : W p l e R s m args below meth c H locs 0 0 Q (F0 m pc ls (.int (jI v) :: .int (jI i) :: .ref (ad 1 1) :: rest)) := by
  refine va_iast X.1.1 X.1.2.1 X.2.1 hw.1 hw.2.1 hw.2.2.1 11 0 yGa_1 rfl (jI_in rfl h.1 h.2.1 ri) d (fun H locs hP hD hS => ?_)
  rw [jI_cl ri, yPa_1 h.1] at hP hD
  exact kk H locs _ ⟨hP, hD, hS, yR_A hw.2.2.2.1 1 i hv (fun q => absurd q (by decide)) (fun q => absurd q (by decide)) (fun q => absurd q (by decide)), hw.2.2.2.2⟩ (h.2.2 _ rfl)
theorem yn_1 (X : yX own p m c cc nL s args D ca ad A) (hw : yW D ca A ad s H locs u) (d : decode cc pc = .ok (.arraylength, 1)) (kk : W p l e R s m args below meth c H locs 0 0 Q (F0 m (pc + 1) ls (.int (jI 40) :: rest))) : W p l e R s m args below meth c H locs 0 0 Q (F0 m pc ls (.ref (ad 1 1) :: rest)) :=
  va_alen X.1.1 X.1.2.1 X.2.1 hw.1 11 0 yGa_1 rfl rfl d kk
theorem yl_2 (X : yX own p m c cc nL s args D ca ad A) (hw : yW D ca A ad s H locs u) {i : Int} (ri : inR i) (d : decode cc pc = .ok (.iaload, 1)) {P : Int → Prop} (h : bd i 40 (rd (u.2.1 2 i) P)) (kk : ∀ v, inR v → P v → W p l e R s m args below meth c H locs 0 0 Q (F0 m (pc + 1) ls (.int (jI v) :: rest))) : W p l e R s m args below meth c H locs 0 0 Q (F0 m pc ls (.int (jI i) :: .ref (ad 1 2) :: rest)) := by
  refine va_iald X.1.1 X.1.2.1 X.2.1 hw.1 12 0 yGa_2 rfl (jI_in rfl h.1 h.2.1 ri) d ?_
  rw [jI_cl ri, Int.toNat_of_nonneg h.1]
  exact kk _ (hw.2.2.2.1.2.1 2 i) (h.2.2 _ rfl (hw.2.2.2.1.2.1 2 i))
theorem yt_2 (X : yX own p m c cc nL s args D ca ad A) (hw : yW D ca A ad s H locs u) {i v : Int} (ri : inR i) (hv : inR v) (d : decode cc pc = .ok (.iastore, 1)) {P : iST → Prop} (h : bd i 40 (sw (iA u 2 i v) P)) (kk : ∀ (H : Heap) (locs : List Loc) (u : iST), yW D ca A ad s H locs u → P u → W p l e R s m args below meth c H locs 0 0 Q (F0 m (pc + 1) ls (rest))) : W p l e R s m args below meth c H locs 0 0 Q (F0 m pc ls (.int (jI v) :: .int (jI i) :: .ref (ad 1 2) :: rest)) := by
  refine va_iast X.1.1 X.1.2.1 X.2.1 hw.1 hw.2.1 hw.2.2.1 12 0 yGa_2 rfl (jI_in rfl h.1 h.2.1 ri) d (fun H locs hP hD hS => ?_)
  rw [jI_cl ri, yPa_2 h.1] at hP hD
  exact kk H locs _ ⟨hP, hD, hS, yR_A hw.2.2.2.1 2 i hv (fun q => absurd q (by decide)) (fun q => absurd q (by decide)) (fun q => absurd q (by decide)), hw.2.2.2.2⟩ (h.2.2 _ rfl)
theorem yn_2 (X : yX own p m c cc nL s args D ca ad A) (hw : yW D ca A ad s H locs u) (d : decode cc pc = .ok (.arraylength, 1)) (kk : W p l e R s m args below meth c H locs 0 0 Q (F0 m (pc + 1) ls (.int (jI 40) :: rest))) : W p l e R s m args below meth c H locs 0 0 Q (F0 m pc ls (.ref (ad 1 2) :: rest)) :=
  va_alen X.1.1 X.1.2.1 X.2.1 hw.1 12 0 yGa_2 rfl rfl d kk
theorem yl_3 (X : yX own p m c cc nL s args D ca ad A) (hw : yW D ca A ad s H locs u) {i : Int} (ri : inR i) (d : decode cc pc = .ok (.iaload, 1)) {P : Int → Prop} (h : bd i 40 (rd (u.2.1 3 i) P)) (kk : ∀ v, inR v → P v → W p l e R s m args below meth c H locs 0 0 Q (F0 m (pc + 1) ls (.int (jI v) :: rest))) : W p l e R s m args below meth c H locs 0 0 Q (F0 m pc ls (.int (jI i) :: .ref (ad 1 3) :: rest)) := by
  refine va_iald X.1.1 X.1.2.1 X.2.1 hw.1 13 0 yGa_3 rfl (jI_in rfl h.1 h.2.1 ri) d ?_
  rw [jI_cl ri, Int.toNat_of_nonneg h.1]
  exact kk _ (hw.2.2.2.1.2.1 3 i) (h.2.2 _ rfl (hw.2.2.2.1.2.1 3 i))
theorem yt_3 (X : yX own p m c cc nL s args D ca ad A) (hw : yW D ca A ad s H locs u) {i v : Int} (ri : inR i) (hv : inR v) (d : decode cc pc = .ok (.iastore, 1)) {P : iST → Prop} (h : bd i 40 (sw (iA u 3 i v) P)) (kk : ∀ (H : Heap) (locs : List Loc) (u : iST), yW D ca A ad s H locs u → P u → W p l e R s m args below meth c H locs 0 0 Q (F0 m (pc + 1) ls (rest))) : W p l e R s m args below meth c H locs 0 0 Q (F0 m pc ls (.int (jI v) :: .int (jI i) :: .ref (ad 1 3) :: rest)) := by
  refine va_iast X.1.1 X.1.2.1 X.2.1 hw.1 hw.2.1 hw.2.2.1 13 0 yGa_3 rfl (jI_in rfl h.1 h.2.1 ri) d (fun H locs hP hD hS => ?_)
  rw [jI_cl ri, yPa_3 h.1] at hP hD
  exact kk H locs _ ⟨hP, hD, hS, yR_A hw.2.2.2.1 3 i hv (fun q => absurd q (by decide)) (fun q => absurd q (by decide)) (fun q => absurd q (by decide)), hw.2.2.2.2⟩ (h.2.2 _ rfl)
theorem yn_3 (X : yX own p m c cc nL s args D ca ad A) (hw : yW D ca A ad s H locs u) (d : decode cc pc = .ok (.arraylength, 1)) (kk : W p l e R s m args below meth c H locs 0 0 Q (F0 m (pc + 1) ls (.int (jI 40) :: rest))) : W p l e R s m args below meth c H locs 0 0 Q (F0 m pc ls (.ref (ad 1 3) :: rest)) :=
  va_alen X.1.1 X.1.2.1 X.2.1 hw.1 13 0 yGa_3 rfl rfl d kk
theorem yl_4 (X : yX own p m c cc nL s args D ca ad A) (hw : yW D ca A ad s H locs u) {i : Int} (ri : inR i) (d : decode cc pc = .ok (.iaload, 1)) {P : Int → Prop} (h : bd i 40 (rd (u.2.1 4 i) P)) (kk : ∀ v, inR v → P v → W p l e R s m args below meth c H locs 0 0 Q (F0 m (pc + 1) ls (.int (jI v) :: rest))) : W p l e R s m args below meth c H locs 0 0 Q (F0 m pc ls (.int (jI i) :: .ref (ad 1 4) :: rest)) := by
  refine va_iald X.1.1 X.1.2.1 X.2.1 hw.1 14 0 yGa_4 rfl (jI_in rfl h.1 h.2.1 ri) d ?_
  rw [jI_cl ri, Int.toNat_of_nonneg h.1]
  exact kk _ (hw.2.2.2.1.2.1 4 i) (h.2.2 _ rfl (hw.2.2.2.1.2.1 4 i))
theorem yt_4 (X : yX own p m c cc nL s args D ca ad A) (hw : yW D ca A ad s H locs u) {i v : Int} (ri : inR i) (hv : inR v) (d : decode cc pc = .ok (.iastore, 1)) {P : iST → Prop} (h : bd i 40 (sw (iA u 4 i v) P)) (kk : ∀ (H : Heap) (locs : List Loc) (u : iST), yW D ca A ad s H locs u → P u → W p l e R s m args below meth c H locs 0 0 Q (F0 m (pc + 1) ls (rest))) : W p l e R s m args below meth c H locs 0 0 Q (F0 m pc ls (.int (jI v) :: .int (jI i) :: .ref (ad 1 4) :: rest)) := by
  refine va_iast X.1.1 X.1.2.1 X.2.1 hw.1 hw.2.1 hw.2.2.1 14 0 yGa_4 rfl (jI_in rfl h.1 h.2.1 ri) d (fun H locs hP hD hS => ?_)
  rw [jI_cl ri, yPa_4 h.1] at hP hD
  exact kk H locs _ ⟨hP, hD, hS, yR_A hw.2.2.2.1 4 i hv (fun q => absurd q (by decide)) (fun q => absurd q (by decide)) (fun q => absurd q (by decide)), hw.2.2.2.2⟩ (h.2.2 _ rfl)
theorem yn_4 (X : yX own p m c cc nL s args D ca ad A) (hw : yW D ca A ad s H locs u) (d : decode cc pc = .ok (.arraylength, 1)) (kk : W p l e R s m args below meth c H locs 0 0 Q (F0 m (pc + 1) ls (.int (jI 40) :: rest))) : W p l e R s m args below meth c H locs 0 0 Q (F0 m pc ls (.ref (ad 1 4) :: rest)) :=
  va_alen X.1.1 X.1.2.1 X.2.1 hw.1 14 0 yGa_4 rfl rfl d kk
theorem yl_5 (X : yX own p m c cc nL s args D ca ad A) (hw : yW D ca A ad s H locs u) {i : Int} (ri : inR i) (d : decode cc pc = .ok (.iaload, 1)) {P : Int → Prop} (h : bd i 60 (rd (u.2.1 5 i) P)) (kk : ∀ v, inR v → P v → W p l e R s m args below meth c H locs 0 0 Q (F0 m (pc + 1) ls (.int (jI v) :: rest))) : W p l e R s m args below meth c H locs 0 0 Q (F0 m pc ls (.int (jI i) :: .ref (ad 1 5) :: rest)) := by
  refine va_iald X.1.1 X.1.2.1 X.2.1 hw.1 15 0 yGa_5 rfl (jI_in rfl h.1 h.2.1 ri) d ?_
  rw [jI_cl ri, Int.toNat_of_nonneg h.1]
  exact kk _ (hw.2.2.2.1.2.1 5 i) (h.2.2 _ rfl (hw.2.2.2.1.2.1 5 i))
theorem yt_5 (X : yX own p m c cc nL s args D ca ad A) (hw : yW D ca A ad s H locs u) {i v : Int} (ri : inR i) (hv : inR v) (d : decode cc pc = .ok (.iastore, 1)) {P : iST → Prop} (h : bd i 60 (sw (iA u 5 i v) P)) (kk : ∀ (H : Heap) (locs : List Loc) (u : iST), yW D ca A ad s H locs u → P u → W p l e R s m args below meth c H locs 0 0 Q (F0 m (pc + 1) ls (rest))) : W p l e R s m args below meth c H locs 0 0 Q (F0 m pc ls (.int (jI v) :: .int (jI i) :: .ref (ad 1 5) :: rest)) := by
  refine va_iast X.1.1 X.1.2.1 X.2.1 hw.1 hw.2.1 hw.2.2.1 15 0 yGa_5 rfl (jI_in rfl h.1 h.2.1 ri) d (fun H locs hP hD hS => ?_)
  rw [jI_cl ri, yPa_5 h.1] at hP hD
  exact kk H locs _ ⟨hP, hD, hS, yR_A hw.2.2.2.1 5 i hv (fun q => absurd q (by decide)) (fun q => absurd q (by decide)) (fun q => absurd q (by decide)), hw.2.2.2.2⟩ (h.2.2 _ rfl)
theorem yn_5 (X : yX own p m c cc nL s args D ca ad A) (hw : yW D ca A ad s H locs u) (d : decode cc pc = .ok (.arraylength, 1)) (kk : W p l e R s m args below meth c H locs 0 0 Q (F0 m (pc + 1) ls (.int (jI 60) :: rest))) : W p l e R s m args below meth c H locs 0 0 Q (F0 m pc ls (.ref (ad 1 5) :: rest)) :=
  va_alen X.1.1 X.1.2.1 X.2.1 hw.1 15 0 yGa_5 rfl rfl d kk
theorem yl_6 (X : yX own p m c cc nL s args D ca ad A) (hw : yW D ca A ad s H locs u) {i : Int} (ri : inR i) (d : decode cc pc = .ok (.iaload, 1)) {P : Int → Prop} (h : bd i 60 (rd (u.2.1 6 i) P)) (kk : ∀ v, inR v → P v → W p l e R s m args below meth c H locs 0 0 Q (F0 m (pc + 1) ls (.int (jI v) :: rest))) : W p l e R s m args below meth c H locs 0 0 Q (F0 m pc ls (.int (jI i) :: .ref (ad 1 6) :: rest)) := by
  refine va_iald X.1.1 X.1.2.1 X.2.1 hw.1 16 0 yGa_6 rfl (jI_in rfl h.1 h.2.1 ri) d ?_
  rw [jI_cl ri, Int.toNat_of_nonneg h.1]
  exact kk _ (hw.2.2.2.1.2.1 6 i) (h.2.2 _ rfl (hw.2.2.2.1.2.1 6 i))
theorem yt_6 (X : yX own p m c cc nL s args D ca ad A) (hw : yW D ca A ad s H locs u) {i v : Int} (ri : inR i) (hv : inR v) (d : decode cc pc = .ok (.iastore, 1)) {P : iST → Prop} (h : bd i 60 (sw (iA u 6 i v) P)) (kk : ∀ (H : Heap) (locs : List Loc) (u : iST), yW D ca A ad s H locs u → P u → W p l e R s m args below meth c H locs 0 0 Q (F0 m (pc + 1) ls (rest))) : W p l e R s m args below meth c H locs 0 0 Q (F0 m pc ls (.int (jI v) :: .int (jI i) :: .ref (ad 1 6) :: rest)) := by
  refine va_iast X.1.1 X.1.2.1 X.2.1 hw.1 hw.2.1 hw.2.2.1 16 0 yGa_6 rfl (jI_in rfl h.1 h.2.1 ri) d (fun H locs hP hD hS => ?_)
  rw [jI_cl ri, yPa_6 h.1] at hP hD
  exact kk H locs _ ⟨hP, hD, hS, yR_A hw.2.2.2.1 6 i hv (fun q => absurd q (by decide)) (fun q => absurd q (by decide)) (fun q => absurd q (by decide)), hw.2.2.2.2⟩ (h.2.2 _ rfl)
theorem yn_6 (X : yX own p m c cc nL s args D ca ad A) (hw : yW D ca A ad s H locs u) (d : decode cc pc = .ok (.arraylength, 1)) (kk : W p l e R s m args below meth c H locs 0 0 Q (F0 m (pc + 1) ls (.int (jI 60) :: rest))) : W p l e R s m args below meth c H locs 0 0 Q (F0 m pc ls (.ref (ad 1 6) :: rest)) :=
  va_alen X.1.1 X.1.2.1 X.2.1 hw.1 16 0 yGa_6 rfl rfl d kk
theorem yl_7 (X : yX own p m c cc nL s args D ca ad A) (hw : yW D ca A ad s H locs u) {i : Int} (ri : inR i) (d : decode cc pc = .ok (.iaload, 1)) {P : Int → Prop} (h : bd i 60 (rd (u.2.1 7 i) P)) (kk : ∀ v, inR v → P v → W p l e R s m args below meth c H locs 0 0 Q (F0 m (pc + 1) ls (.int (jI v) :: rest))) : W p l e R s m args below meth c H locs 0 0 Q (F0 m pc ls (.int (jI i) :: .ref (ad 1 7) :: rest)) := by
  refine va_iald X.1.1 X.1.2.1 X.2.1 hw.1 17 0 yGa_7 rfl (jI_in rfl h.1 h.2.1 ri) d ?_
  rw [jI_cl ri, Int.toNat_of_nonneg h.1]
  exact kk _ (hw.2.2.2.1.2.1 7 i) (h.2.2 _ rfl (hw.2.2.2.1.2.1 7 i))
theorem yt_7 (X : yX own p m c cc nL s args D ca ad A) (hw : yW D ca A ad s H locs u) {i v : Int} (ri : inR i) (hv : inR v) (d : decode cc pc = .ok (.iastore, 1)) {P : iST → Prop} (h : bd i 60 (sw (iA u 7 i v) P)) (kk : ∀ (H : Heap) (locs : List Loc) (u : iST), yW D ca A ad s H locs u → P u → W p l e R s m args below meth c H locs 0 0 Q (F0 m (pc + 1) ls (rest))) : W p l e R s m args below meth c H locs 0 0 Q (F0 m pc ls (.int (jI v) :: .int (jI i) :: .ref (ad 1 7) :: rest)) := by
  refine va_iast X.1.1 X.1.2.1 X.2.1 hw.1 hw.2.1 hw.2.2.1 17 0 yGa_7 rfl (jI_in rfl h.1 h.2.1 ri) d (fun H locs hP hD hS => ?_)
  rw [jI_cl ri, yPa_7 h.1] at hP hD
  exact kk H locs _ ⟨hP, hD, hS, yR_A hw.2.2.2.1 7 i hv (fun q => absurd q (by decide)) (fun q => absurd q (by decide)) (fun q => absurd q (by decide)), hw.2.2.2.2⟩ (h.2.2 _ rfl)
theorem yn_7 (X : yX own p m c cc nL s args D ca ad A) (hw : yW D ca A ad s H locs u) (d : decode cc pc = .ok (.arraylength, 1)) (kk : W p l e R s m args below meth c H locs 0 0 Q (F0 m (pc + 1) ls (.int (jI 60) :: rest))) : W p l e R s m args below meth c H locs 0 0 Q (F0 m pc ls (.ref (ad 1 7) :: rest)) :=
  va_alen X.1.1 X.1.2.1 X.2.1 hw.1 17 0 yGa_7 rfl rfl d kk
theorem yl_8 (X : yX own p m c cc nL s args D ca ad A) (hw : yW D ca A ad s H locs u) {i : Int} (ri : inR i) (d : decode cc pc = .ok (.iaload, 1)) {P : Int → Prop} (h : bd i 60 (rd (u.2.1 8 i) P)) (kk : ∀ v, inR v → P v → W p l e R s m args below meth c H locs 0 0 Q (F0 m (pc + 1) ls (.int (jI v) :: rest))) : W p l e R s m args below meth c H locs 0 0 Q (F0 m pc ls (.int (jI i) :: .ref (ad 1 8) :: rest)) := by
  refine va_iald X.1.1 X.1.2.1 X.2.1 hw.1 18 0 yGa_8 rfl (jI_in rfl h.1 h.2.1 ri) d ?_
  rw [jI_cl ri, Int.toNat_of_nonneg h.1]
  exact kk _ (hw.2.2.2.1.2.1 8 i) (h.2.2 _ rfl (hw.2.2.2.1.2.1 8 i))
theorem yt_8 (X : yX own p m c cc nL s args D ca ad A) (hw : yW D ca A ad s H locs u) {i v : Int} (ri : inR i) (hv : inR v) (d : decode cc pc = .ok (.iastore, 1)) {P : iST → Prop} (h : bd i 60 (sw (iA u 8 i v) P)) (kk : ∀ (H : Heap) (locs : List Loc) (u : iST), yW D ca A ad s H locs u → P u → W p l e R s m args below meth c H locs 0 0 Q (F0 m (pc + 1) ls (rest))) : W p l e R s m args below meth c H locs 0 0 Q (F0 m pc ls (.int (jI v) :: .int (jI i) :: .ref (ad 1 8) :: rest)) := by
  refine va_iast X.1.1 X.1.2.1 X.2.1 hw.1 hw.2.1 hw.2.2.1 18 0 yGa_8 rfl (jI_in rfl h.1 h.2.1 ri) d (fun H locs hP hD hS => ?_)
  rw [jI_cl ri, yPa_8 h.1] at hP hD
  exact kk H locs _ ⟨hP, hD, hS, yR_A hw.2.2.2.1 8 i hv (fun q => absurd q (by decide)) (fun q => absurd q (by decide)) (fun q => absurd q (by decide)), hw.2.2.2.2⟩ (h.2.2 _ rfl)
theorem yn_8 (X : yX own p m c cc nL s args D ca ad A) (hw : yW D ca A ad s H locs u) (d : decode cc pc = .ok (.arraylength, 1)) (kk : W p l e R s m args below meth c H locs 0 0 Q (F0 m (pc + 1) ls (.int (jI 60) :: rest))) : W p l e R s m args below meth c H locs 0 0 Q (F0 m pc ls (.ref (ad 1 8) :: rest)) :=
  va_alen X.1.1 X.1.2.1 X.2.1 hw.1 18 0 yGa_8 rfl rfl d kk
theorem yl_9 (X : yX own p m c cc nL s args D ca ad A) (hw : yW D ca A ad s H locs u) {i : Int} (ri : inR i) (d : decode cc pc = .ok (.iaload, 1)) {P : Int → Prop} (h : bd i 60 (rd (u.2.1 9 i) P)) (kk : ∀ v, inR v → P v → W p l e R s m args below meth c H locs 0 0 Q (F0 m (pc + 1) ls (.int (jI v) :: rest))) : W p l e R s m args below meth c H locs 0 0 Q (F0 m pc ls (.int (jI i) :: .ref (ad 1 9) :: rest)) := by
  refine va_iald X.1.1 X.1.2.1 X.2.1 hw.1 19 0 yGa_9 rfl (jI_in rfl h.1 h.2.1 ri) d ?_
  rw [jI_cl ri, Int.toNat_of_nonneg h.1]
  exact kk _ (hw.2.2.2.1.2.1 9 i) (h.2.2 _ rfl (hw.2.2.2.1.2.1 9 i))
theorem yt_9 (X : yX own p m c cc nL s args D ca ad A) (hw : yW D ca A ad s H locs u) {i v : Int} (ri : inR i) (hv : inR v) (d : decode cc pc = .ok (.iastore, 1)) {P : iST → Prop} (h : bd i 60 (sw (iA u 9 i v) P)) (kk : ∀ (H : Heap) (locs : List Loc) (u : iST), yW D ca A ad s H locs u → P u → W p l e R s m args below meth c H locs 0 0 Q (F0 m (pc + 1) ls (rest))) : W p l e R s m args below meth c H locs 0 0 Q (F0 m pc ls (.int (jI v) :: .int (jI i) :: .ref (ad 1 9) :: rest)) := by
  refine va_iast X.1.1 X.1.2.1 X.2.1 hw.1 hw.2.1 hw.2.2.1 19 0 yGa_9 rfl (jI_in rfl h.1 h.2.1 ri) d (fun H locs hP hD hS => ?_)
  rw [jI_cl ri, yPa_9 h.1] at hP hD
  exact kk H locs _ ⟨hP, hD, hS, yR_A hw.2.2.2.1 9 i hv (fun q => absurd q (by decide)) (fun q => absurd q (by decide)) (fun q => absurd q (by decide)), hw.2.2.2.2⟩ (h.2.2 _ rfl)
theorem yn_9 (X : yX own p m c cc nL s args D ca ad A) (hw : yW D ca A ad s H locs u) (d : decode cc pc = .ok (.arraylength, 1)) (kk : W p l e R s m args below meth c H locs 0 0 Q (F0 m (pc + 1) ls (.int (jI 60) :: rest))) : W p l e R s m args below meth c H locs 0 0 Q (F0 m pc ls (.ref (ad 1 9) :: rest)) :=
  va_alen X.1.1 X.1.2.1 X.2.1 hw.1 19 0 yGa_9 rfl rfl d kk
theorem yl_10 (X : yX own p m c cc nL s args D ca ad A) (hw : yW D ca A ad s H locs u) {i : Int} (ri : inR i) (d : decode cc pc = .ok (.baload, 1)) {P : Int → Prop} (h : bd i 60 (rz (u.2.1 10 i) P)) (kk : ∀ v, bz v → P v → W p l e R s m args below meth c H locs 0 0 Q (F0 m (pc + 1) ls (.int (jI v) :: rest))) : W p l e R s m args below meth c H locs 0 0 Q (F0 m pc ls (.int (jI i) :: .ref (ad 1 10) :: rest)) := by
  refine va_zald X.1.1 X.1.2.1 X.2.1 hw.1 20 1 yGa_10 rfl (jI_in rfl h.1 h.2.1 ri) d ?_
  rw [jI_cl ri, Int.toNat_of_nonneg h.1]
  exact kk _ (hw.2.2.2.1.2.2.2.2.1 10 (by decide) i) (h.2.2 _ rfl (hw.2.2.2.1.2.2.2.2.1 10 (by decide) i))
theorem yt_10 (X : yX own p m c cc nL s args D ca ad A) (hw : yW D ca A ad s H locs u) {i v : Int} (ri : inR i) (d : decode cc pc = .ok (.bastore, 1)) {P : iST → Prop} (h : zt v (bd i 60 (sw (iA u 10 i v) P))) (kk : ∀ (H : Heap) (locs : List Loc) (u : iST), yW D ca A ad s H locs u → P u → W p l e R s m args below meth c H locs 0 0 Q (F0 m (pc + 1) ls (rest))) : W p l e R s m args below meth c H locs 0 0 Q (F0 m pc ls (.int (jI v) :: .int (jI i) :: .ref (ad 1 10) :: rest)) := by
  refine va_zast X.1.1 X.1.2.1 X.2.1 hw.1 hw.2.1 hw.2.2.1 20 1 yGa_10 rfl (jI_in rfl h.2.1 h.2.2.1 ri) d (fun H locs hP hD hS => ?_)
  rw [bz_vp h.1, jI_cl ri, yPa_10 h.2.1] at hP hD
  exact kk H locs _ ⟨hP, hD, hS, yR_A hw.2.2.2.1 10 i (bz_in h.1) (fun _ => h.1) (fun q => absurd q (by decide)) (fun q => absurd q (by decide)), hw.2.2.2.2⟩ (h.2.2.2 _ rfl)
theorem yn_10 (X : yX own p m c cc nL s args D ca ad A) (hw : yW D ca A ad s H locs u) (d : decode cc pc = .ok (.arraylength, 1)) (kk : W p l e R s m args below meth c H locs 0 0 Q (F0 m (pc + 1) ls (.int (jI 60) :: rest))) : W p l e R s m args below meth c H locs 0 0 Q (F0 m pc ls (.ref (ad 1 10) :: rest)) :=
  va_alen X.1.1 X.1.2.1 X.2.1 hw.1 20 1 yGa_10 rfl rfl d kk
theorem yl_11 (X : yX own p m c cc nL s args D ca ad A) (hw : yW D ca A ad s H locs u) {i : Int} (ri : inR i) (d : decode cc pc = .ok (.baload, 1)) {P : Int → Prop} (h : bd i 60 (rz (u.2.1 11 i) P)) (kk : ∀ v, bz v → P v → W p l e R s m args below meth c H locs 0 0 Q (F0 m (pc + 1) ls (.int (jI v) :: rest))) : W p l e R s m args below meth c H locs 0 0 Q (F0 m pc ls (.int (jI i) :: .ref (ad 1 11) :: rest)) := by
  refine va_zald X.1.1 X.1.2.1 X.2.1 hw.1 21 1 yGa_11 rfl (jI_in rfl h.1 h.2.1 ri) d ?_
  rw [jI_cl ri, Int.toNat_of_nonneg h.1]
  exact kk _ (hw.2.2.2.1.2.2.2.2.1 11 (by decide) i) (h.2.2 _ rfl (hw.2.2.2.1.2.2.2.2.1 11 (by decide) i))
theorem yt_11 (X : yX own p m c cc nL s args D ca ad A) (hw : yW D ca A ad s H locs u) {i v : Int} (ri : inR i) (d : decode cc pc = .ok (.bastore, 1)) {P : iST → Prop} (h : zt v (bd i 60 (sw (iA u 11 i v) P))) (kk : ∀ (H : Heap) (locs : List Loc) (u : iST), yW D ca A ad s H locs u → P u → W p l e R s m args below meth c H locs 0 0 Q (F0 m (pc + 1) ls (rest))) : W p l e R s m args below meth c H locs 0 0 Q (F0 m pc ls (.int (jI v) :: .int (jI i) :: .ref (ad 1 11) :: rest)) := by
  refine va_zast X.1.1 X.1.2.1 X.2.1 hw.1 hw.2.1 hw.2.2.1 21 1 yGa_11 rfl (jI_in rfl h.2.1 h.2.2.1 ri) d (fun H locs hP hD hS => ?_)
  rw [bz_vp h.1, jI_cl ri, yPa_11 h.2.1] at hP hD
  exact kk H locs _ ⟨hP, hD, hS, yR_A hw.2.2.2.1 11 i (bz_in h.1) (fun _ => h.1) (fun q => absurd q (by decide)) (fun q => absurd q (by decide)), hw.2.2.2.2⟩ (h.2.2.2 _ rfl)
theorem yn_11 (X : yX own p m c cc nL s args D ca ad A) (hw : yW D ca A ad s H locs u) (d : decode cc pc = .ok (.arraylength, 1)) (kk : W p l e R s m args below meth c H locs 0 0 Q (F0 m (pc + 1) ls (.int (jI 60) :: rest))) : W p l e R s m args below meth c H locs 0 0 Q (F0 m pc ls (.ref (ad 1 11) :: rest)) :=
  va_alen X.1.1 X.1.2.1 X.2.1 hw.1 21 1 yGa_11 rfl rfl d kk
theorem yl_12 (X : yX own p m c cc nL s args D ca ad A) (hw : yW D ca A ad s H locs u) {i : Int} (ri : inR i) (d : decode cc pc = .ok (.baload, 1)) {P : Int → Prop} (h : bd i 60 (rz (u.2.1 12 i) P)) (kk : ∀ v, bz v → P v → W p l e R s m args below meth c H locs 0 0 Q (F0 m (pc + 1) ls (.int (jI v) :: rest))) : W p l e R s m args below meth c H locs 0 0 Q (F0 m pc ls (.int (jI i) :: .ref (ad 1 12) :: rest)) := by
  refine va_zald X.1.1 X.1.2.1 X.2.1 hw.1 22 1 yGa_12 rfl (jI_in rfl h.1 h.2.1 ri) d ?_
  rw [jI_cl ri, Int.toNat_of_nonneg h.1]
  exact kk _ (hw.2.2.2.1.2.2.2.2.1 12 (by decide) i) (h.2.2 _ rfl (hw.2.2.2.1.2.2.2.2.1 12 (by decide) i))
theorem yt_12 (X : yX own p m c cc nL s args D ca ad A) (hw : yW D ca A ad s H locs u) {i v : Int} (ri : inR i) (d : decode cc pc = .ok (.bastore, 1)) {P : iST → Prop} (h : zt v (bd i 60 (sw (iA u 12 i v) P))) (kk : ∀ (H : Heap) (locs : List Loc) (u : iST), yW D ca A ad s H locs u → P u → W p l e R s m args below meth c H locs 0 0 Q (F0 m (pc + 1) ls (rest))) : W p l e R s m args below meth c H locs 0 0 Q (F0 m pc ls (.int (jI v) :: .int (jI i) :: .ref (ad 1 12) :: rest)) := by
  refine va_zast X.1.1 X.1.2.1 X.2.1 hw.1 hw.2.1 hw.2.2.1 22 1 yGa_12 rfl (jI_in rfl h.2.1 h.2.2.1 ri) d (fun H locs hP hD hS => ?_)
  rw [bz_vp h.1, jI_cl ri, yPa_12 h.2.1] at hP hD
  exact kk H locs _ ⟨hP, hD, hS, yR_A hw.2.2.2.1 12 i (bz_in h.1) (fun _ => h.1) (fun q => absurd q (by decide)) (fun q => absurd q (by decide)), hw.2.2.2.2⟩ (h.2.2.2 _ rfl)
theorem yn_12 (X : yX own p m c cc nL s args D ca ad A) (hw : yW D ca A ad s H locs u) (d : decode cc pc = .ok (.arraylength, 1)) (kk : W p l e R s m args below meth c H locs 0 0 Q (F0 m (pc + 1) ls (.int (jI 60) :: rest))) : W p l e R s m args below meth c H locs 0 0 Q (F0 m pc ls (.ref (ad 1 12) :: rest)) :=
  va_alen X.1.1 X.1.2.1 X.2.1 hw.1 22 1 yGa_12 rfl rfl d kk
theorem yl_13 (X : yX own p m c cc nL s args D ca ad A) (hw : yW D ca A ad s H locs u) {i : Int} (ri : inR i) (d : decode cc pc = .ok (.baload, 1)) {P : Int → Prop} (h : bd i 60 (rz (u.2.1 13 i) P)) (kk : ∀ v, bz v → P v → W p l e R s m args below meth c H locs 0 0 Q (F0 m (pc + 1) ls (.int (jI v) :: rest))) : W p l e R s m args below meth c H locs 0 0 Q (F0 m pc ls (.int (jI i) :: .ref (ad 1 13) :: rest)) := by
  refine va_zald X.1.1 X.1.2.1 X.2.1 hw.1 23 1 yGa_13 rfl (jI_in rfl h.1 h.2.1 ri) d ?_
  rw [jI_cl ri, Int.toNat_of_nonneg h.1]
  exact kk _ (hw.2.2.2.1.2.2.2.2.1 13 (by decide) i) (h.2.2 _ rfl (hw.2.2.2.1.2.2.2.2.1 13 (by decide) i))
theorem yt_13 (X : yX own p m c cc nL s args D ca ad A) (hw : yW D ca A ad s H locs u) {i v : Int} (ri : inR i) (d : decode cc pc = .ok (.bastore, 1)) {P : iST → Prop} (h : zt v (bd i 60 (sw (iA u 13 i v) P))) (kk : ∀ (H : Heap) (locs : List Loc) (u : iST), yW D ca A ad s H locs u → P u → W p l e R s m args below meth c H locs 0 0 Q (F0 m (pc + 1) ls (rest))) : W p l e R s m args below meth c H locs 0 0 Q (F0 m pc ls (.int (jI v) :: .int (jI i) :: .ref (ad 1 13) :: rest)) := by
  refine va_zast X.1.1 X.1.2.1 X.2.1 hw.1 hw.2.1 hw.2.2.1 23 1 yGa_13 rfl (jI_in rfl h.2.1 h.2.2.1 ri) d (fun H locs hP hD hS => ?_)
  rw [bz_vp h.1, jI_cl ri, yPa_13 h.2.1] at hP hD
  exact kk H locs _ ⟨hP, hD, hS, yR_A hw.2.2.2.1 13 i (bz_in h.1) (fun _ => h.1) (fun q => absurd q (by decide)) (fun q => absurd q (by decide)), hw.2.2.2.2⟩ (h.2.2.2 _ rfl)
theorem yn_13 (X : yX own p m c cc nL s args D ca ad A) (hw : yW D ca A ad s H locs u) (d : decode cc pc = .ok (.arraylength, 1)) (kk : W p l e R s m args below meth c H locs 0 0 Q (F0 m (pc + 1) ls (.int (jI 60) :: rest))) : W p l e R s m args below meth c H locs 0 0 Q (F0 m pc ls (.ref (ad 1 13) :: rest)) :=
  va_alen X.1.1 X.1.2.1 X.2.1 hw.1 23 1 yGa_13 rfl rfl d kk
theorem yl_14 (X : yX own p m c cc nL s args D ca ad A) (hw : yW D ca A ad s H locs u) {i : Int} (ri : inR i) (d : decode cc pc = .ok (.iaload, 1)) {P : Int → Prop} (h : bd i 100 (rd (u.2.1 14 i) P)) (kk : ∀ v, inR v → P v → W p l e R s m args below meth c H locs 0 0 Q (F0 m (pc + 1) ls (.int (jI v) :: rest))) : W p l e R s m args below meth c H locs 0 0 Q (F0 m pc ls (.int (jI i) :: .ref (ad 1 14) :: rest)) := by
  refine va_iald X.1.1 X.1.2.1 X.2.1 hw.1 24 0 yGa_14 rfl (jI_in rfl h.1 h.2.1 ri) d ?_
  rw [jI_cl ri, Int.toNat_of_nonneg h.1]
  exact kk _ (hw.2.2.2.1.2.1 14 i) (h.2.2 _ rfl (hw.2.2.2.1.2.1 14 i))
theorem yt_14 (X : yX own p m c cc nL s args D ca ad A) (hw : yW D ca A ad s H locs u) {i v : Int} (ri : inR i) (hv : inR v) (d : decode cc pc = .ok (.iastore, 1)) {P : iST → Prop} (h : bd i 100 (sw (iA u 14 i v) P)) (kk : ∀ (H : Heap) (locs : List Loc) (u : iST), yW D ca A ad s H locs u → P u → W p l e R s m args below meth c H locs 0 0 Q (F0 m (pc + 1) ls (rest))) : W p l e R s m args below meth c H locs 0 0 Q (F0 m pc ls (.int (jI v) :: .int (jI i) :: .ref (ad 1 14) :: rest)) := by
  refine va_iast X.1.1 X.1.2.1 X.2.1 hw.1 hw.2.1 hw.2.2.1 24 0 yGa_14 rfl (jI_in rfl h.1 h.2.1 ri) d (fun H locs hP hD hS => ?_)
  rw [jI_cl ri, yPa_14 h.1] at hP hD
  exact kk H locs _ ⟨hP, hD, hS, yR_A hw.2.2.2.1 14 i hv (fun q => absurd q (by decide)) (fun q => absurd q (by decide)) (fun q => absurd q (by decide)), hw.2.2.2.2⟩ (h.2.2 _ rfl)
theorem yn_14 (X : yX own p m c cc nL s args D ca ad A) (hw : yW D ca A ad s H locs u) (d : decode cc pc = .ok (.arraylength, 1)) (kk : W p l e R s m args below meth c H locs 0 0 Q (F0 m (pc + 1) ls (.int (jI 100) :: rest))) : W p l e R s m args below meth c H locs 0 0 Q (F0 m pc ls (.ref (ad 1 14) :: rest)) :=
  va_alen X.1.1 X.1.2.1 X.2.1 hw.1 24 0 yGa_14 rfl rfl d kk
theorem yl_15 (X : yX own p m c cc nL s args D ca ad A) (hw : yW D ca A ad s H locs u) {i : Int} (ri : inR i) (d : decode cc pc = .ok (.iaload, 1)) {P : Int → Prop} (h : bd i 100 (rd (u.2.1 15 i) P)) (kk : ∀ v, inR v → P v → W p l e R s m args below meth c H locs 0 0 Q (F0 m (pc + 1) ls (.int (jI v) :: rest))) : W p l e R s m args below meth c H locs 0 0 Q (F0 m pc ls (.int (jI i) :: .ref (ad 1 15) :: rest)) := by
  refine va_iald X.1.1 X.1.2.1 X.2.1 hw.1 25 0 yGa_15 rfl (jI_in rfl h.1 h.2.1 ri) d ?_
  rw [jI_cl ri, Int.toNat_of_nonneg h.1]
  exact kk _ (hw.2.2.2.1.2.1 15 i) (h.2.2 _ rfl (hw.2.2.2.1.2.1 15 i))
theorem yt_15 (X : yX own p m c cc nL s args D ca ad A) (hw : yW D ca A ad s H locs u) {i v : Int} (ri : inR i) (hv : inR v) (d : decode cc pc = .ok (.iastore, 1)) {P : iST → Prop} (h : bd i 100 (sw (iA u 15 i v) P)) (kk : ∀ (H : Heap) (locs : List Loc) (u : iST), yW D ca A ad s H locs u → P u → W p l e R s m args below meth c H locs 0 0 Q (F0 m (pc + 1) ls (rest))) : W p l e R s m args below meth c H locs 0 0 Q (F0 m pc ls (.int (jI v) :: .int (jI i) :: .ref (ad 1 15) :: rest)) := by
  refine va_iast X.1.1 X.1.2.1 X.2.1 hw.1 hw.2.1 hw.2.2.1 25 0 yGa_15 rfl (jI_in rfl h.1 h.2.1 ri) d (fun H locs hP hD hS => ?_)
  rw [jI_cl ri, yPa_15 h.1] at hP hD
  exact kk H locs _ ⟨hP, hD, hS, yR_A hw.2.2.2.1 15 i hv (fun q => absurd q (by decide)) (fun q => absurd q (by decide)) (fun q => absurd q (by decide)), hw.2.2.2.2⟩ (h.2.2 _ rfl)
theorem yn_15 (X : yX own p m c cc nL s args D ca ad A) (hw : yW D ca A ad s H locs u) (d : decode cc pc = .ok (.arraylength, 1)) (kk : W p l e R s m args below meth c H locs 0 0 Q (F0 m (pc + 1) ls (.int (jI 100) :: rest))) : W p l e R s m args below meth c H locs 0 0 Q (F0 m pc ls (.ref (ad 1 15) :: rest)) :=
  va_alen X.1.1 X.1.2.1 X.2.1 hw.1 25 0 yGa_15 rfl rfl d kk
theorem yl_16 (X : yX own p m c cc nL s args D ca ad A) (hw : yW D ca A ad s H locs u) {i : Int} (ri : inR i) (d : decode cc pc = .ok (.iaload, 1)) {P : Int → Prop} (h : bd i 300 (rd (u.2.1 16 i) P)) (kk : ∀ v, inR v → P v → W p l e R s m args below meth c H locs 0 0 Q (F0 m (pc + 1) ls (.int (jI v) :: rest))) : W p l e R s m args below meth c H locs 0 0 Q (F0 m pc ls (.int (jI i) :: .ref (ad 1 16) :: rest)) := by
  refine va_iald X.1.1 X.1.2.1 X.2.1 hw.1 26 0 yGa_16 rfl (jI_in rfl h.1 h.2.1 ri) d ?_
  rw [jI_cl ri, Int.toNat_of_nonneg h.1]
  exact kk _ (hw.2.2.2.1.2.1 16 i) (h.2.2 _ rfl (hw.2.2.2.1.2.1 16 i))
theorem yt_16 (X : yX own p m c cc nL s args D ca ad A) (hw : yW D ca A ad s H locs u) {i v : Int} (ri : inR i) (hv : inR v) (d : decode cc pc = .ok (.iastore, 1)) {P : iST → Prop} (h : bd i 300 (sw (iA u 16 i v) P)) (kk : ∀ (H : Heap) (locs : List Loc) (u : iST), yW D ca A ad s H locs u → P u → W p l e R s m args below meth c H locs 0 0 Q (F0 m (pc + 1) ls (rest))) : W p l e R s m args below meth c H locs 0 0 Q (F0 m pc ls (.int (jI v) :: .int (jI i) :: .ref (ad 1 16) :: rest)) := by
  refine va_iast X.1.1 X.1.2.1 X.2.1 hw.1 hw.2.1 hw.2.2.1 26 0 yGa_16 rfl (jI_in rfl h.1 h.2.1 ri) d (fun H locs hP hD hS => ?_)
  rw [jI_cl ri, yPa_16 h.1] at hP hD
  exact kk H locs _ ⟨hP, hD, hS, yR_A hw.2.2.2.1 16 i hv (fun q => absurd q (by decide)) (fun q => absurd q (by decide)) (fun q => absurd q (by decide)), hw.2.2.2.2⟩ (h.2.2 _ rfl)
theorem yn_16 (X : yX own p m c cc nL s args D ca ad A) (hw : yW D ca A ad s H locs u) (d : decode cc pc = .ok (.arraylength, 1)) (kk : W p l e R s m args below meth c H locs 0 0 Q (F0 m (pc + 1) ls (.int (jI 300) :: rest))) : W p l e R s m args below meth c H locs 0 0 Q (F0 m pc ls (.ref (ad 1 16) :: rest)) :=
  va_alen X.1.1 X.1.2.1 X.2.1 hw.1 26 0 yGa_16 rfl rfl d kk
theorem yl_17 (X : yX own p m c cc nL s args D ca ad A) (hw : yW D ca A ad s H locs u) {i : Int} (ri : inR i) (d : decode cc pc = .ok (.iaload, 1)) {P : Int → Prop} (h : bd i 300 (rd (u.2.1 17 i) P)) (kk : ∀ v, inR v → P v → W p l e R s m args below meth c H locs 0 0 Q (F0 m (pc + 1) ls (.int (jI v) :: rest))) : W p l e R s m args below meth c H locs 0 0 Q (F0 m pc ls (.int (jI i) :: .ref (ad 1 17) :: rest)) := by
  refine va_iald X.1.1 X.1.2.1 X.2.1 hw.1 27 0 yGa_17 rfl (jI_in rfl h.1 h.2.1 ri) d ?_
  rw [jI_cl ri, Int.toNat_of_nonneg h.1]
  exact kk _ (hw.2.2.2.1.2.1 17 i) (h.2.2 _ rfl (hw.2.2.2.1.2.1 17 i))
theorem yt_17 (X : yX own p m c cc nL s args D ca ad A) (hw : yW D ca A ad s H locs u) {i v : Int} (ri : inR i) (hv : inR v) (d : decode cc pc = .ok (.iastore, 1)) {P : iST → Prop} (h : bd i 300 (sw (iA u 17 i v) P)) (kk : ∀ (H : Heap) (locs : List Loc) (u : iST), yW D ca A ad s H locs u → P u → W p l e R s m args below meth c H locs 0 0 Q (F0 m (pc + 1) ls (rest))) : W p l e R s m args below meth c H locs 0 0 Q (F0 m pc ls (.int (jI v) :: .int (jI i) :: .ref (ad 1 17) :: rest)) := by
  refine va_iast X.1.1 X.1.2.1 X.2.1 hw.1 hw.2.1 hw.2.2.1 27 0 yGa_17 rfl (jI_in rfl h.1 h.2.1 ri) d (fun H locs hP hD hS => ?_)
  rw [jI_cl ri, yPa_17 h.1] at hP hD
  exact kk H locs _ ⟨hP, hD, hS, yR_A hw.2.2.2.1 17 i hv (fun q => absurd q (by decide)) (fun q => absurd q (by decide)) (fun q => absurd q (by decide)), hw.2.2.2.2⟩ (h.2.2 _ rfl)
theorem yn_17 (X : yX own p m c cc nL s args D ca ad A) (hw : yW D ca A ad s H locs u) (d : decode cc pc = .ok (.arraylength, 1)) (kk : W p l e R s m args below meth c H locs 0 0 Q (F0 m (pc + 1) ls (.int (jI 300) :: rest))) : W p l e R s m args below meth c H locs 0 0 Q (F0 m pc ls (.ref (ad 1 17) :: rest)) :=
  va_alen X.1.1 X.1.2.1 X.2.1 hw.1 27 0 yGa_17 rfl rfl d kk
theorem yl_18 (X : yX own p m c cc nL s args D ca ad A) (hw : yW D ca A ad s H locs u) {i : Int} (ri : inR i) (d : decode cc pc = .ok (.iaload, 1)) {P : Int → Prop} (h : bd i 300 (rd (u.2.1 18 i) P)) (kk : ∀ v, inR v → P v → W p l e R s m args below meth c H locs 0 0 Q (F0 m (pc + 1) ls (.int (jI v) :: rest))) : W p l e R s m args below meth c H locs 0 0 Q (F0 m pc ls (.int (jI i) :: .ref (ad 1 18) :: rest)) := by
  refine va_iald X.1.1 X.1.2.1 X.2.1 hw.1 28 0 yGa_18 rfl (jI_in rfl h.1 h.2.1 ri) d ?_
  rw [jI_cl ri, Int.toNat_of_nonneg h.1]
  exact kk _ (hw.2.2.2.1.2.1 18 i) (h.2.2 _ rfl (hw.2.2.2.1.2.1 18 i))
theorem yt_18 (X : yX own p m c cc nL s args D ca ad A) (hw : yW D ca A ad s H locs u) {i v : Int} (ri : inR i) (hv : inR v) (d : decode cc pc = .ok (.iastore, 1)) {P : iST → Prop} (h : bd i 300 (sw (iA u 18 i v) P)) (kk : ∀ (H : Heap) (locs : List Loc) (u : iST), yW D ca A ad s H locs u → P u → W p l e R s m args below meth c H locs 0 0 Q (F0 m (pc + 1) ls (rest))) : W p l e R s m args below meth c H locs 0 0 Q (F0 m pc ls (.int (jI v) :: .int (jI i) :: .ref (ad 1 18) :: rest)) := by
  refine va_iast X.1.1 X.1.2.1 X.2.1 hw.1 hw.2.1 hw.2.2.1 28 0 yGa_18 rfl (jI_in rfl h.1 h.2.1 ri) d (fun H locs hP hD hS => ?_)
  rw [jI_cl ri, yPa_18 h.1] at hP hD
  exact kk H locs _ ⟨hP, hD, hS, yR_A hw.2.2.2.1 18 i hv (fun q => absurd q (by decide)) (fun q => absurd q (by decide)) (fun q => absurd q (by decide)), hw.2.2.2.2⟩ (h.2.2 _ rfl)
theorem yn_18 (X : yX own p m c cc nL s args D ca ad A) (hw : yW D ca A ad s H locs u) (d : decode cc pc = .ok (.arraylength, 1)) (kk : W p l e R s m args below meth c H locs 0 0 Q (F0 m (pc + 1) ls (.int (jI 300) :: rest))) : W p l e R s m args below meth c H locs 0 0 Q (F0 m pc ls (.ref (ad 1 18) :: rest)) :=
  va_alen X.1.1 X.1.2.1 X.2.1 hw.1 28 0 yGa_18 rfl rfl d kk
theorem yl_19 (X : yX own p m c cc nL s args D ca ad A) (hw : yW D ca A ad s H locs u) {i : Int} (ri : inR i) (d : decode cc pc = .ok (.baload, 1)) {P : Int → Prop} (h : bd i 300 (rz (u.2.1 19 i) P)) (kk : ∀ v, bz v → P v → W p l e R s m args below meth c H locs 0 0 Q (F0 m (pc + 1) ls (.int (jI v) :: rest))) : W p l e R s m args below meth c H locs 0 0 Q (F0 m pc ls (.int (jI i) :: .ref (ad 1 19) :: rest)) := by
  refine va_zald X.1.1 X.1.2.1 X.2.1 hw.1 29 1 yGa_19 rfl (jI_in rfl h.1 h.2.1 ri) d ?_
  rw [jI_cl ri, Int.toNat_of_nonneg h.1]
  exact kk _ (hw.2.2.2.1.2.2.2.2.1 19 (by decide) i) (h.2.2 _ rfl (hw.2.2.2.1.2.2.2.2.1 19 (by decide) i))
theorem yt_19 (X : yX own p m c cc nL s args D ca ad A) (hw : yW D ca A ad s H locs u) {i v : Int} (ri : inR i) (d : decode cc pc = .ok (.bastore, 1)) {P : iST → Prop} (h : zt v (bd i 300 (sw (iA u 19 i v) P))) (kk : ∀ (H : Heap) (locs : List Loc) (u : iST), yW D ca A ad s H locs u → P u → W p l e R s m args below meth c H locs 0 0 Q (F0 m (pc + 1) ls (rest))) : W p l e R s m args below meth c H locs 0 0 Q (F0 m pc ls (.int (jI v) :: .int (jI i) :: .ref (ad 1 19) :: rest)) := by
  refine va_zast X.1.1 X.1.2.1 X.2.1 hw.1 hw.2.1 hw.2.2.1 29 1 yGa_19 rfl (jI_in rfl h.2.1 h.2.2.1 ri) d (fun H locs hP hD hS => ?_)
  rw [bz_vp h.1, jI_cl ri, yPa_19 h.2.1] at hP hD
  exact kk H locs _ ⟨hP, hD, hS, yR_A hw.2.2.2.1 19 i (bz_in h.1) (fun _ => h.1) (fun q => absurd q (by decide)) (fun q => absurd q (by decide)), hw.2.2.2.2⟩ (h.2.2.2 _ rfl)
theorem yn_19 (X : yX own p m c cc nL s args D ca ad A) (hw : yW D ca A ad s H locs u) (d : decode cc pc = .ok (.arraylength, 1)) (kk : W p l e R s m args below meth c H locs 0 0 Q (F0 m (pc + 1) ls (.int (jI 300) :: rest))) : W p l e R s m args below meth c H locs 0 0 Q (F0 m pc ls (.ref (ad 1 19) :: rest)) :=
  va_alen X.1.1 X.1.2.1 X.2.1 hw.1 29 1 yGa_19 rfl rfl d kk
theorem yl_20 (X : yX own p m c cc nL s args D ca ad A) (hw : yW D ca A ad s H locs u) {i : Int} (ri : inR i) (d : decode cc pc = .ok (.iaload, 1)) {P : Int → Prop} (h : bd i 300 (rd (u.2.1 20 i) P)) (kk : ∀ v, inR v → P v → W p l e R s m args below meth c H locs 0 0 Q (F0 m (pc + 1) ls (.int (jI v) :: rest))) : W p l e R s m args below meth c H locs 0 0 Q (F0 m pc ls (.int (jI i) :: .ref (ad 1 20) :: rest)) := by
  refine va_iald X.1.1 X.1.2.1 X.2.1 hw.1 30 0 yGa_20 rfl (jI_in rfl h.1 h.2.1 ri) d ?_
  rw [jI_cl ri, Int.toNat_of_nonneg h.1]
  exact kk _ (hw.2.2.2.1.2.1 20 i) (h.2.2 _ rfl (hw.2.2.2.1.2.1 20 i))
theorem yt_20 (X : yX own p m c cc nL s args D ca ad A) (hw : yW D ca A ad s H locs u) {i v : Int} (ri : inR i) (hv : inR v) (d : decode cc pc = .ok (.iastore, 1)) {P : iST → Prop} (h : bd i 300 (sw (iA u 20 i v) P)) (kk : ∀ (H : Heap) (locs : List Loc) (u : iST), yW D ca A ad s H locs u → P u → W p l e R s m args below meth c H locs 0 0 Q (F0 m (pc + 1) ls (rest))) : W p l e R s m args below meth c H locs 0 0 Q (F0 m pc ls (.int (jI v) :: .int (jI i) :: .ref (ad 1 20) :: rest)) := by
  refine va_iast X.1.1 X.1.2.1 X.2.1 hw.1 hw.2.1 hw.2.2.1 30 0 yGa_20 rfl (jI_in rfl h.1 h.2.1 ri) d (fun H locs hP hD hS => ?_)
  rw [jI_cl ri, yPa_20 h.1] at hP hD
  exact kk H locs _ ⟨hP, hD, hS, yR_A hw.2.2.2.1 20 i hv (fun q => absurd q (by decide)) (fun q => absurd q (by decide)) (fun q => absurd q (by decide)), hw.2.2.2.2⟩ (h.2.2 _ rfl)
theorem yn_20 (X : yX own p m c cc nL s args D ca ad A) (hw : yW D ca A ad s H locs u) (d : decode cc pc = .ok (.arraylength, 1)) (kk : W p l e R s m args below meth c H locs 0 0 Q (F0 m (pc + 1) ls (.int (jI 300) :: rest))) : W p l e R s m args below meth c H locs 0 0 Q (F0 m pc ls (.ref (ad 1 20) :: rest)) :=
  va_alen X.1.1 X.1.2.1 X.2.1 hw.1 30 0 yGa_20 rfl rfl d kk
theorem yl_21 (X : yX own p m c cc nL s args D ca ad A) (hw : yW D ca A ad s H locs u) {i : Int} (ri : inR i) (d : decode cc pc = .ok (.iaload, 1)) {P : Int → Prop} (h : bd i 300 (rd (u.2.1 21 i) P)) (kk : ∀ v, inR v → P v → W p l e R s m args below meth c H locs 0 0 Q (F0 m (pc + 1) ls (.int (jI v) :: rest))) : W p l e R s m args below meth c H locs 0 0 Q (F0 m pc ls (.int (jI i) :: .ref (ad 1 21) :: rest)) := by
  refine va_iald X.1.1 X.1.2.1 X.2.1 hw.1 31 0 yGa_21 rfl (jI_in rfl h.1 h.2.1 ri) d ?_
  rw [jI_cl ri, Int.toNat_of_nonneg h.1]
  exact kk _ (hw.2.2.2.1.2.1 21 i) (h.2.2 _ rfl (hw.2.2.2.1.2.1 21 i))
theorem yt_21 (X : yX own p m c cc nL s args D ca ad A) (hw : yW D ca A ad s H locs u) {i v : Int} (ri : inR i) (hv : inR v) (d : decode cc pc = .ok (.iastore, 1)) {P : iST → Prop} (h : bd i 300 (sw (iA u 21 i v) P)) (kk : ∀ (H : Heap) (locs : List Loc) (u : iST), yW D ca A ad s H locs u → P u → W p l e R s m args below meth c H locs 0 0 Q (F0 m (pc + 1) ls (rest))) : W p l e R s m args below meth c H locs 0 0 Q (F0 m pc ls (.int (jI v) :: .int (jI i) :: .ref (ad 1 21) :: rest)) := by
  refine va_iast X.1.1 X.1.2.1 X.2.1 hw.1 hw.2.1 hw.2.2.1 31 0 yGa_21 rfl (jI_in rfl h.1 h.2.1 ri) d (fun H locs hP hD hS => ?_)
  rw [jI_cl ri, yPa_21 h.1] at hP hD
  exact kk H locs _ ⟨hP, hD, hS, yR_A hw.2.2.2.1 21 i hv (fun q => absurd q (by decide)) (fun q => absurd q (by decide)) (fun q => absurd q (by decide)), hw.2.2.2.2⟩ (h.2.2 _ rfl)
theorem yn_21 (X : yX own p m c cc nL s args D ca ad A) (hw : yW D ca A ad s H locs u) (d : decode cc pc = .ok (.arraylength, 1)) (kk : W p l e R s m args below meth c H locs 0 0 Q (F0 m (pc + 1) ls (.int (jI 300) :: rest))) : W p l e R s m args below meth c H locs 0 0 Q (F0 m pc ls (.ref (ad 1 21) :: rest)) :=
  va_alen X.1.1 X.1.2.1 X.2.1 hw.1 31 0 yGa_21 rfl rfl d kk
theorem yl_22 (X : yX own p m c cc nL s args D ca ad A) (hw : yW D ca A ad s H locs u) {i : Int} (ri : inR i) (d : decode cc pc = .ok (.iaload, 1)) {P : Int → Prop} (h : bd i 1803 (rd (u.2.1 22 i) P)) (kk : ∀ v, inR v → P v → W p l e R s m args below meth c H locs 0 0 Q (F0 m (pc + 1) ls (.int (jI v) :: rest))) : W p l e R s m args below meth c H locs 0 0 Q (F0 m pc ls (.int (jI i) :: .ref (ad 1 22) :: rest)) := by
  refine va_iald X.1.1 X.1.2.1 X.2.1 hw.1 32 0 yGa_22 rfl (jI_in rfl h.1 h.2.1 ri) d ?_
  rw [jI_cl ri, Int.toNat_of_nonneg h.1]
  exact kk _ (hw.2.2.2.1.2.1 22 i) (h.2.2 _ rfl (hw.2.2.2.1.2.1 22 i))
theorem yt_22 (X : yX own p m c cc nL s args D ca ad A) (hw : yW D ca A ad s H locs u) {i v : Int} (ri : inR i) (hv : inR v) (d : decode cc pc = .ok (.iastore, 1)) {P : iST → Prop} (h : bd i 1803 (sw (iA u 22 i v) P)) (kk : ∀ (H : Heap) (locs : List Loc) (u : iST), yW D ca A ad s H locs u → P u → W p l e R s m args below meth c H locs 0 0 Q (F0 m (pc + 1) ls (rest))) : W p l e R s m args below meth c H locs 0 0 Q (F0 m pc ls (.int (jI v) :: .int (jI i) :: .ref (ad 1 22) :: rest)) := by
  refine va_iast X.1.1 X.1.2.1 X.2.1 hw.1 hw.2.1 hw.2.2.1 32 0 yGa_22 rfl (jI_in rfl h.1 h.2.1 ri) d (fun H locs hP hD hS => ?_)
  rw [jI_cl ri, yPa_22 h.1] at hP hD
  exact kk H locs _ ⟨hP, hD, hS, yR_A hw.2.2.2.1 22 i hv (fun q => absurd q (by decide)) (fun q => absurd q (by decide)) (fun q => absurd q (by decide)), hw.2.2.2.2⟩ (h.2.2 _ rfl)
theorem yn_22 (X : yX own p m c cc nL s args D ca ad A) (hw : yW D ca A ad s H locs u) (d : decode cc pc = .ok (.arraylength, 1)) (kk : W p l e R s m args below meth c H locs 0 0 Q (F0 m (pc + 1) ls (.int (jI 1803) :: rest))) : W p l e R s m args below meth c H locs 0 0 Q (F0 m pc ls (.ref (ad 1 22) :: rest)) :=
  va_alen X.1.1 X.1.2.1 X.2.1 hw.1 32 0 yGa_22 rfl rfl d kk
theorem yl_23 (X : yX own p m c cc nL s args D ca ad A) (hw : yW D ca A ad s H locs u) {i : Int} (ri : inR i) (d : decode cc pc = .ok (.iaload, 1)) {P : Int → Prop} (h : bd i 41 (rd (u.2.1 23 i) P)) (kk : ∀ v, inR v → P v → W p l e R s m args below meth c H locs 0 0 Q (F0 m (pc + 1) ls (.int (jI v) :: rest))) : W p l e R s m args below meth c H locs 0 0 Q (F0 m pc ls (.int (jI i) :: .ref (ad 1 23) :: rest)) := by
  refine va_iald X.1.1 X.1.2.1 X.2.1 hw.1 33 0 yGa_23 rfl (jI_in rfl h.1 h.2.1 ri) d ?_
  rw [jI_cl ri, Int.toNat_of_nonneg h.1]
  exact kk _ (hw.2.2.2.1.2.1 23 i) (h.2.2 _ rfl (hw.2.2.2.1.2.1 23 i))
theorem yt_23 (X : yX own p m c cc nL s args D ca ad A) (hw : yW D ca A ad s H locs u) {i v : Int} (ri : inR i) (hv : inR v) (d : decode cc pc = .ok (.iastore, 1)) {P : iST → Prop} (h : bd i 41 (sw (iA u 23 i v) P)) (kk : ∀ (H : Heap) (locs : List Loc) (u : iST), yW D ca A ad s H locs u → P u → W p l e R s m args below meth c H locs 0 0 Q (F0 m (pc + 1) ls (rest))) : W p l e R s m args below meth c H locs 0 0 Q (F0 m pc ls (.int (jI v) :: .int (jI i) :: .ref (ad 1 23) :: rest)) := by
  refine va_iast X.1.1 X.1.2.1 X.2.1 hw.1 hw.2.1 hw.2.2.1 33 0 yGa_23 rfl (jI_in rfl h.1 h.2.1 ri) d (fun H locs hP hD hS => ?_)
  rw [jI_cl ri, yPa_23 h.1] at hP hD
  exact kk H locs _ ⟨hP, hD, hS, yR_A hw.2.2.2.1 23 i hv (fun q => absurd q (by decide)) (fun q => absurd q (by decide)) (fun q => absurd q (by decide)), hw.2.2.2.2⟩ (h.2.2 _ rfl)
theorem yn_23 (X : yX own p m c cc nL s args D ca ad A) (hw : yW D ca A ad s H locs u) (d : decode cc pc = .ok (.arraylength, 1)) (kk : W p l e R s m args below meth c H locs 0 0 Q (F0 m (pc + 1) ls (.int (jI 41) :: rest))) : W p l e R s m args below meth c H locs 0 0 Q (F0 m pc ls (.ref (ad 1 23) :: rest)) :=
  va_alen X.1.1 X.1.2.1 X.2.1 hw.1 33 0 yGa_23 rfl rfl d kk
theorem yl_24 (X : yX own p m c cc nL s args D ca ad A) (hw : yW D ca A ad s H locs u) {i : Int} (ri : inR i) (d : decode cc pc = .ok (.iaload, 1)) {P : Int → Prop} (h : bd i 41 (rd (u.2.1 24 i) P)) (kk : ∀ v, inR v → P v → W p l e R s m args below meth c H locs 0 0 Q (F0 m (pc + 1) ls (.int (jI v) :: rest))) : W p l e R s m args below meth c H locs 0 0 Q (F0 m pc ls (.int (jI i) :: .ref (ad 1 24) :: rest)) := by
  refine va_iald X.1.1 X.1.2.1 X.2.1 hw.1 34 0 yGa_24 rfl (jI_in rfl h.1 h.2.1 ri) d ?_
  rw [jI_cl ri, Int.toNat_of_nonneg h.1]
  exact kk _ (hw.2.2.2.1.2.1 24 i) (h.2.2 _ rfl (hw.2.2.2.1.2.1 24 i))
theorem yt_24 (X : yX own p m c cc nL s args D ca ad A) (hw : yW D ca A ad s H locs u) {i v : Int} (ri : inR i) (hv : inR v) (d : decode cc pc = .ok (.iastore, 1)) {P : iST → Prop} (h : bd i 41 (sw (iA u 24 i v) P)) (kk : ∀ (H : Heap) (locs : List Loc) (u : iST), yW D ca A ad s H locs u → P u → W p l e R s m args below meth c H locs 0 0 Q (F0 m (pc + 1) ls (rest))) : W p l e R s m args below meth c H locs 0 0 Q (F0 m pc ls (.int (jI v) :: .int (jI i) :: .ref (ad 1 24) :: rest)) := by
  refine va_iast X.1.1 X.1.2.1 X.2.1 hw.1 hw.2.1 hw.2.2.1 34 0 yGa_24 rfl (jI_in rfl h.1 h.2.1 ri) d (fun H locs hP hD hS => ?_)
  rw [jI_cl ri, yPa_24 h.1] at hP hD
  exact kk H locs _ ⟨hP, hD, hS, yR_A hw.2.2.2.1 24 i hv (fun q => absurd q (by decide)) (fun q => absurd q (by decide)) (fun q => absurd q (by decide)), hw.2.2.2.2⟩ (h.2.2 _ rfl)
theorem yn_24 (X : yX own p m c cc nL s args D ca ad A) (hw : yW D ca A ad s H locs u) (d : decode cc pc = .ok (.arraylength, 1)) (kk : W p l e R s m args below meth c H locs 0 0 Q (F0 m (pc + 1) ls (.int (jI 41) :: rest))) : W p l e R s m args below meth c H locs 0 0 Q (F0 m pc ls (.ref (ad 1 24) :: rest)) :=
  va_alen X.1.1 X.1.2.1 X.2.1 hw.1 34 0 yGa_24 rfl rfl d kk
theorem yl_25 (X : yX own p m c cc nL s args D ca ad A) (hw : yW D ca A ad s H locs u) {i : Int} (ri : inR i) (d : decode cc pc = .ok (.iaload, 1)) {P : Int → Prop} (h : bd i 41 (rd (u.2.1 25 i) P)) (kk : ∀ v, inR v → P v → W p l e R s m args below meth c H locs 0 0 Q (F0 m (pc + 1) ls (.int (jI v) :: rest))) : W p l e R s m args below meth c H locs 0 0 Q (F0 m pc ls (.int (jI i) :: .ref (ad 1 25) :: rest)) := by
  refine va_iald X.1.1 X.1.2.1 X.2.1 hw.1 35 0 yGa_25 rfl (jI_in rfl h.1 h.2.1 ri) d ?_
  rw [jI_cl ri, Int.toNat_of_nonneg h.1]
  exact kk _ (hw.2.2.2.1.2.1 25 i) (h.2.2 _ rfl (hw.2.2.2.1.2.1 25 i))
theorem yt_25 (X : yX own p m c cc nL s args D ca ad A) (hw : yW D ca A ad s H locs u) {i v : Int} (ri : inR i) (hv : inR v) (d : decode cc pc = .ok (.iastore, 1)) {P : iST → Prop} (h : bd i 41 (sw (iA u 25 i v) P)) (kk : ∀ (H : Heap) (locs : List Loc) (u : iST), yW D ca A ad s H locs u → P u → W p l e R s m args below meth c H locs 0 0 Q (F0 m (pc + 1) ls (rest))) : W p l e R s m args below meth c H locs 0 0 Q (F0 m pc ls (.int (jI v) :: .int (jI i) :: .ref (ad 1 25) :: rest)) := by
  refine va_iast X.1.1 X.1.2.1 X.2.1 hw.1 hw.2.1 hw.2.2.1 35 0 yGa_25 rfl (jI_in rfl h.1 h.2.1 ri) d (fun H locs hP hD hS => ?_)
  rw [jI_cl ri, yPa_25 h.1] at hP hD
  exact kk H locs _ ⟨hP, hD, hS, yR_A hw.2.2.2.1 25 i hv (fun q => absurd q (by decide)) (fun q => absurd q (by decide)) (fun q => absurd q (by decide)), hw.2.2.2.2⟩ (h.2.2 _ rfl)
theorem yn_25 (X : yX own p m c cc nL s args D ca ad A) (hw : yW D ca A ad s H locs u) (d : decode cc pc = .ok (.arraylength, 1)) (kk : W p l e R s m args below meth c H locs 0 0 Q (F0 m (pc + 1) ls (.int (jI 41) :: rest))) : W p l e R s m args below meth c H locs 0 0 Q (F0 m pc ls (.ref (ad 1 25) :: rest)) :=
  va_alen X.1.1 X.1.2.1 X.2.1 hw.1 35 0 yGa_25 rfl rfl d kk
theorem yl_26 (X : yX own p m c cc nL s args D ca ad A) (hw : yW D ca A ad s H locs u) {i : Int} (ri : inR i) (d : decode cc pc = .ok (.iaload, 1)) {P : Int → Prop} (h : bd i 1000 (rd (u.2.1 26 i) P)) (kk : ∀ v, inR v → P v → W p l e R s m args below meth c H locs 0 0 Q (F0 m (pc + 1) ls (.int (jI v) :: rest))) : W p l e R s m args below meth c H locs 0 0 Q (F0 m pc ls (.int (jI i) :: .ref (ad 1 26) :: rest)) := by
  refine va_iald X.1.1 X.1.2.1 X.2.1 hw.1 36 0 yGa_26 rfl (jI_in rfl h.1 h.2.1 ri) d ?_
  rw [jI_cl ri, Int.toNat_of_nonneg h.1]
  exact kk _ (hw.2.2.2.1.2.1 26 i) (h.2.2 _ rfl (hw.2.2.2.1.2.1 26 i))
theorem yt_26 (X : yX own p m c cc nL s args D ca ad A) (hw : yW D ca A ad s H locs u) {i v : Int} (ri : inR i) (hv : inR v) (d : decode cc pc = .ok (.iastore, 1)) {P : iST → Prop} (h : bd i 1000 (sw (iA u 26 i v) P)) (kk : ∀ (H : Heap) (locs : List Loc) (u : iST), yW D ca A ad s H locs u → P u → W p l e R s m args below meth c H locs 0 0 Q (F0 m (pc + 1) ls (rest))) : W p l e R s m args below meth c H locs 0 0 Q (F0 m pc ls (.int (jI v) :: .int (jI i) :: .ref (ad 1 26) :: rest)) := by
  refine va_iast X.1.1 X.1.2.1 X.2.1 hw.1 hw.2.1 hw.2.2.1 36 0 yGa_26 rfl (jI_in rfl h.1 h.2.1 ri) d (fun H locs hP hD hS => ?_)
  rw [jI_cl ri, yPa_26 h.1] at hP hD
  exact kk H locs _ ⟨hP, hD, hS, yR_A hw.2.2.2.1 26 i hv (fun q => absurd q (by decide)) (fun q => absurd q (by decide)) (fun q => absurd q (by decide)), hw.2.2.2.2⟩ (h.2.2 _ rfl)
theorem yn_26 (X : yX own p m c cc nL s args D ca ad A) (hw : yW D ca A ad s H locs u) (d : decode cc pc = .ok (.arraylength, 1)) (kk : W p l e R s m args below meth c H locs 0 0 Q (F0 m (pc + 1) ls (.int (jI 1000) :: rest))) : W p l e R s m args below meth c H locs 0 0 Q (F0 m pc ls (.ref (ad 1 26) :: rest)) :=
  va_alen X.1.1 X.1.2.1 X.2.1 hw.1 36 0 yGa_26 rfl rfl d kk
theorem yl_27 (X : yX own p m c cc nL s args D ca ad A) (hw : yW D ca A ad s H locs u) {i : Int} (ri : inR i) (d : decode cc pc = .ok (.iaload, 1)) {P : Int → Prop} (h : bd i 160000 (rd (u.2.1 27 i) P)) (kk : ∀ v, inR v → P v → W p l e R s m args below meth c H locs 0 0 Q (F0 m (pc + 1) ls (.int (jI v) :: rest))) : W p l e R s m args below meth c H locs 0 0 Q (F0 m pc ls (.int (jI i) :: .ref (ad 1 27) :: rest)) := by
  refine va_iald X.1.1 X.1.2.1 X.2.1 hw.1 37 0 yGa_27 rfl (jI_in rfl h.1 h.2.1 ri) d ?_
  rw [jI_cl ri, Int.toNat_of_nonneg h.1]
  exact kk _ (hw.2.2.2.1.2.1 27 i) (h.2.2 _ rfl (hw.2.2.2.1.2.1 27 i))
theorem yt_27 (X : yX own p m c cc nL s args D ca ad A) (hw : yW D ca A ad s H locs u) {i v : Int} (ri : inR i) (hv : inR v) (d : decode cc pc = .ok (.iastore, 1)) {P : iST → Prop} (h : bd i 160000 (sw (iA u 27 i v) P)) (kk : ∀ (H : Heap) (locs : List Loc) (u : iST), yW D ca A ad s H locs u → P u → W p l e R s m args below meth c H locs 0 0 Q (F0 m (pc + 1) ls (rest))) : W p l e R s m args below meth c H locs 0 0 Q (F0 m pc ls (.int (jI v) :: .int (jI i) :: .ref (ad 1 27) :: rest)) := by
  refine va_iast X.1.1 X.1.2.1 X.2.1 hw.1 hw.2.1 hw.2.2.1 37 0 yGa_27 rfl (jI_in rfl h.1 h.2.1 ri) d (fun H locs hP hD hS => ?_)
  rw [jI_cl ri, yPa_27 h.1] at hP hD
  exact kk H locs _ ⟨hP, hD, hS, yR_A hw.2.2.2.1 27 i hv (fun q => absurd q (by decide)) (fun q => absurd q (by decide)) (fun q => absurd q (by decide)), hw.2.2.2.2⟩ (h.2.2 _ rfl)
theorem yn_27 (X : yX own p m c cc nL s args D ca ad A) (hw : yW D ca A ad s H locs u) (d : decode cc pc = .ok (.arraylength, 1)) (kk : W p l e R s m args below meth c H locs 0 0 Q (F0 m (pc + 1) ls (.int (jI 160000) :: rest))) : W p l e R s m args below meth c H locs 0 0 Q (F0 m pc ls (.ref (ad 1 27) :: rest)) :=
  va_alen X.1.1 X.1.2.1 X.2.1 hw.1 37 0 yGa_27 rfl rfl d kk
theorem yl_28 (X : yX own p m c cc nL s args D ca ad A) (hw : yW D ca A ad s H locs u) {i : Int} (ri : inR i) (d : decode cc pc = .ok (.iaload, 1)) {P : Int → Prop} (h : bd i 160000 (rd (u.2.1 28 i) P)) (kk : ∀ v, inR v → P v → W p l e R s m args below meth c H locs 0 0 Q (F0 m (pc + 1) ls (.int (jI v) :: rest))) : W p l e R s m args below meth c H locs 0 0 Q (F0 m pc ls (.int (jI i) :: .ref (ad 1 28) :: rest)) := by
  refine va_iald X.1.1 X.1.2.1 X.2.1 hw.1 38 0 yGa_28 rfl (jI_in rfl h.1 h.2.1 ri) d ?_
  rw [jI_cl ri, Int.toNat_of_nonneg h.1]
  exact kk _ (hw.2.2.2.1.2.1 28 i) (h.2.2 _ rfl (hw.2.2.2.1.2.1 28 i))
theorem yt_28 (X : yX own p m c cc nL s args D ca ad A) (hw : yW D ca A ad s H locs u) {i v : Int} (ri : inR i) (hv : inR v) (d : decode cc pc = .ok (.iastore, 1)) {P : iST → Prop} (h : bd i 160000 (sw (iA u 28 i v) P)) (kk : ∀ (H : Heap) (locs : List Loc) (u : iST), yW D ca A ad s H locs u → P u → W p l e R s m args below meth c H locs 0 0 Q (F0 m (pc + 1) ls (rest))) : W p l e R s m args below meth c H locs 0 0 Q (F0 m pc ls (.int (jI v) :: .int (jI i) :: .ref (ad 1 28) :: rest)) := by
  refine va_iast X.1.1 X.1.2.1 X.2.1 hw.1 hw.2.1 hw.2.2.1 38 0 yGa_28 rfl (jI_in rfl h.1 h.2.1 ri) d (fun H locs hP hD hS => ?_)
  rw [jI_cl ri, yPa_28 h.1] at hP hD
  exact kk H locs _ ⟨hP, hD, hS, yR_A hw.2.2.2.1 28 i hv (fun q => absurd q (by decide)) (fun q => absurd q (by decide)) (fun q => absurd q (by decide)), hw.2.2.2.2⟩ (h.2.2 _ rfl)
theorem yn_28 (X : yX own p m c cc nL s args D ca ad A) (hw : yW D ca A ad s H locs u) (d : decode cc pc = .ok (.arraylength, 1)) (kk : W p l e R s m args below meth c H locs 0 0 Q (F0 m (pc + 1) ls (.int (jI 160000) :: rest))) : W p l e R s m args below meth c H locs 0 0 Q (F0 m pc ls (.ref (ad 1 28) :: rest)) :=
  va_alen X.1.1 X.1.2.1 X.2.1 hw.1 38 0 yGa_28 rfl rfl d kk
theorem yl_29 (X : yX own p m c cc nL s args D ca ad A) (hw : yW D ca A ad s H locs u) {i : Int} (ri : inR i) (d : decode cc pc = .ok (.iaload, 1)) {P : Int → Prop} (h : bd i 160000 (rd (u.2.1 29 i) P)) (kk : ∀ v, inR v → P v → W p l e R s m args below meth c H locs 0 0 Q (F0 m (pc + 1) ls (.int (jI v) :: rest))) : W p l e R s m args below meth c H locs 0 0 Q (F0 m pc ls (.int (jI i) :: .ref (ad 1 29) :: rest)) := by
  refine va_iald X.1.1 X.1.2.1 X.2.1 hw.1 39 0 yGa_29 rfl (jI_in rfl h.1 h.2.1 ri) d ?_
  rw [jI_cl ri, Int.toNat_of_nonneg h.1]
  exact kk _ (hw.2.2.2.1.2.1 29 i) (h.2.2 _ rfl (hw.2.2.2.1.2.1 29 i))
theorem yt_29 (X : yX own p m c cc nL s args D ca ad A) (hw : yW D ca A ad s H locs u) {i v : Int} (ri : inR i) (hv : inR v) (d : decode cc pc = .ok (.iastore, 1)) {P : iST → Prop} (h : bd i 160000 (sw (iA u 29 i v) P)) (kk : ∀ (H : Heap) (locs : List Loc) (u : iST), yW D ca A ad s H locs u → P u → W p l e R s m args below meth c H locs 0 0 Q (F0 m (pc + 1) ls (rest))) : W p l e R s m args below meth c H locs 0 0 Q (F0 m pc ls (.int (jI v) :: .int (jI i) :: .ref (ad 1 29) :: rest)) := by
  refine va_iast X.1.1 X.1.2.1 X.2.1 hw.1 hw.2.1 hw.2.2.1 39 0 yGa_29 rfl (jI_in rfl h.1 h.2.1 ri) d (fun H locs hP hD hS => ?_)
  rw [jI_cl ri, yPa_29 h.1] at hP hD
  exact kk H locs _ ⟨hP, hD, hS, yR_A hw.2.2.2.1 29 i hv (fun q => absurd q (by decide)) (fun q => absurd q (by decide)) (fun q => absurd q (by decide)), hw.2.2.2.2⟩ (h.2.2 _ rfl)
theorem yn_29 (X : yX own p m c cc nL s args D ca ad A) (hw : yW D ca A ad s H locs u) (d : decode cc pc = .ok (.arraylength, 1)) (kk : W p l e R s m args below meth c H locs 0 0 Q (F0 m (pc + 1) ls (.int (jI 160000) :: rest))) : W p l e R s m args below meth c H locs 0 0 Q (F0 m pc ls (.ref (ad 1 29) :: rest)) :=
  va_alen X.1.1 X.1.2.1 X.2.1 hw.1 39 0 yGa_29 rfl rfl d kk
theorem yl_30 (X : yX own p m c cc nL s args D ca ad A) (hw : yW D ca A ad s H locs u) {i : Int} (ri : inR i) (d : decode cc pc = .ok (.iaload, 1)) {P : Int → Prop} (h : bd i 32768 (rd (u.2.1 30 i) P)) (kk : ∀ v, inR v → P v → W p l e R s m args below meth c H locs 0 0 Q (F0 m (pc + 1) ls (.int (jI v) :: rest))) : W p l e R s m args below meth c H locs 0 0 Q (F0 m pc ls (.int (jI i) :: .ref (ad 1 30) :: rest)) := by
  refine va_iald X.1.1 X.1.2.1 X.2.1 hw.1 40 0 yGa_30 rfl (jI_in rfl h.1 h.2.1 ri) d ?_
  rw [jI_cl ri, Int.toNat_of_nonneg h.1]
  exact kk _ (hw.2.2.2.1.2.1 30 i) (h.2.2 _ rfl (hw.2.2.2.1.2.1 30 i))
theorem yt_30 (X : yX own p m c cc nL s args D ca ad A) (hw : yW D ca A ad s H locs u) {i v : Int} (ri : inR i) (hv : inR v) (d : decode cc pc = .ok (.iastore, 1)) {P : iST → Prop} (h : bd i 32768 (sw (iA u 30 i v) P)) (kk : ∀ (H : Heap) (locs : List Loc) (u : iST), yW D ca A ad s H locs u → P u → W p l e R s m args below meth c H locs 0 0 Q (F0 m (pc + 1) ls (rest))) : W p l e R s m args below meth c H locs 0 0 Q (F0 m pc ls (.int (jI v) :: .int (jI i) :: .ref (ad 1 30) :: rest)) := by
  refine va_iast X.1.1 X.1.2.1 X.2.1 hw.1 hw.2.1 hw.2.2.1 40 0 yGa_30 rfl (jI_in rfl h.1 h.2.1 ri) d (fun H locs hP hD hS => ?_)
  rw [jI_cl ri, yPa_30 h.1] at hP hD
  exact kk H locs _ ⟨hP, hD, hS, yR_A hw.2.2.2.1 30 i hv (fun q => absurd q (by decide)) (fun q => absurd q (by decide)) (fun q => absurd q (by decide)), hw.2.2.2.2⟩ (h.2.2 _ rfl)
theorem yn_30 (X : yX own p m c cc nL s args D ca ad A) (hw : yW D ca A ad s H locs u) (d : decode cc pc = .ok (.arraylength, 1)) (kk : W p l e R s m args below meth c H locs 0 0 Q (F0 m (pc + 1) ls (.int (jI 32768) :: rest))) : W p l e R s m args below meth c H locs 0 0 Q (F0 m pc ls (.ref (ad 1 30) :: rest)) :=
  va_alen X.1.1 X.1.2.1 X.2.1 hw.1 40 0 yGa_30 rfl rfl d kk
theorem yl_31 (X : yX own p m c cc nL s args D ca ad A) (hw : yW D ca A ad s H locs u) {i : Int} (ri : inR i) (d : decode cc pc = .ok (.iaload, 1)) {P : Int → Prop} (h : bd i 64 (rd (u.2.1 31 i) P)) (kk : ∀ v, inR v → P v → W p l e R s m args below meth c H locs 0 0 Q (F0 m (pc + 1) ls (.int (jI v) :: rest))) : W p l e R s m args below meth c H locs 0 0 Q (F0 m pc ls (.int (jI i) :: .ref (ad 1 31) :: rest)) := by
  refine va_iald X.1.1 X.1.2.1 X.2.1 hw.1 41 0 yGa_31 rfl (jI_in rfl h.1 h.2.1 ri) d ?_
  rw [jI_cl ri, Int.toNat_of_nonneg h.1]
  exact kk _ (hw.2.2.2.1.2.1 31 i) (h.2.2 _ rfl (hw.2.2.2.1.2.1 31 i))
theorem yt_31 (X : yX own p m c cc nL s args D ca ad A) (hw : yW D ca A ad s H locs u) {i v : Int} (ri : inR i) (hv : inR v) (d : decode cc pc = .ok (.iastore, 1)) {P : iST → Prop} (h : bd i 64 (sw (iA u 31 i v) P)) (kk : ∀ (H : Heap) (locs : List Loc) (u : iST), yW D ca A ad s H locs u → P u → W p l e R s m args below meth c H locs 0 0 Q (F0 m (pc + 1) ls (rest))) : W p l e R s m args below meth c H locs 0 0 Q (F0 m pc ls (.int (jI v) :: .int (jI i) :: .ref (ad 1 31) :: rest)) := by
  refine va_iast X.1.1 X.1.2.1 X.2.1 hw.1 hw.2.1 hw.2.2.1 41 0 yGa_31 rfl (jI_in rfl h.1 h.2.1 ri) d (fun H locs hP hD hS => ?_)
  rw [jI_cl ri, yPa_31 h.1] at hP hD
  exact kk H locs _ ⟨hP, hD, hS, yR_A hw.2.2.2.1 31 i hv (fun q => absurd q (by decide)) (fun q => absurd q (by decide)) (fun q => absurd q (by decide)), hw.2.2.2.2⟩ (h.2.2 _ rfl)
theorem yn_31 (X : yX own p m c cc nL s args D ca ad A) (hw : yW D ca A ad s H locs u) (d : decode cc pc = .ok (.arraylength, 1)) (kk : W p l e R s m args below meth c H locs 0 0 Q (F0 m (pc + 1) ls (.int (jI 64) :: rest))) : W p l e R s m args below meth c H locs 0 0 Q (F0 m pc ls (.ref (ad 1 31) :: rest)) :=
  va_alen X.1.1 X.1.2.1 X.2.1 hw.1 41 0 yGa_31 rfl rfl d kk
theorem yl_32 (X : yX own p m c cc nL s args D ca ad A) (hw : yW D ca A ad s H locs u) {i : Int} (ri : inR i) (d : decode cc pc = .ok (.baload, 1)) {P : Int → Prop} (h : bd i 64 (rz (u.2.1 32 i) P)) (kk : ∀ v, bz v → P v → W p l e R s m args below meth c H locs 0 0 Q (F0 m (pc + 1) ls (.int (jI v) :: rest))) : W p l e R s m args below meth c H locs 0 0 Q (F0 m pc ls (.int (jI i) :: .ref (ad 1 32) :: rest)) := by
  refine va_zald X.1.1 X.1.2.1 X.2.1 hw.1 42 1 yGa_32 rfl (jI_in rfl h.1 h.2.1 ri) d ?_
  rw [jI_cl ri, Int.toNat_of_nonneg h.1]
  exact kk _ (hw.2.2.2.1.2.2.2.2.1 32 (by decide) i) (h.2.2 _ rfl (hw.2.2.2.1.2.2.2.2.1 32 (by decide) i))
theorem yt_32 (X : yX own p m c cc nL s args D ca ad A) (hw : yW D ca A ad s H locs u) {i v : Int} (ri : inR i) (d : decode cc pc = .ok (.bastore, 1)) {P : iST → Prop} (h : zt v (bd i 64 (sw (iA u 32 i v) P))) (kk : ∀ (H : Heap) (locs : List Loc) (u : iST), yW D ca A ad s H locs u → P u → W p l e R s m args below meth c H locs 0 0 Q (F0 m (pc + 1) ls (rest))) : W p l e R s m args below meth c H locs 0 0 Q (F0 m pc ls (.int (jI v) :: .int (jI i) :: .ref (ad 1 32) :: rest)) := by
  refine va_zast X.1.1 X.1.2.1 X.2.1 hw.1 hw.2.1 hw.2.2.1 42 1 yGa_32 rfl (jI_in rfl h.2.1 h.2.2.1 ri) d (fun H locs hP hD hS => ?_)
  rw [bz_vp h.1, jI_cl ri, yPa_32 h.2.1] at hP hD
  exact kk H locs _ ⟨hP, hD, hS, yR_A hw.2.2.2.1 32 i (bz_in h.1) (fun _ => h.1) (fun q => absurd q (by decide)) (fun q => absurd q (by decide)), hw.2.2.2.2⟩ (h.2.2.2 _ rfl)
theorem yn_32 (X : yX own p m c cc nL s args D ca ad A) (hw : yW D ca A ad s H locs u) (d : decode cc pc = .ok (.arraylength, 1)) (kk : W p l e R s m args below meth c H locs 0 0 Q (F0 m (pc + 1) ls (.int (jI 64) :: rest))) : W p l e R s m args below meth c H locs 0 0 Q (F0 m pc ls (.ref (ad 1 32) :: rest)) :=
  va_alen X.1.1 X.1.2.1 X.2.1 hw.1 42 1 yGa_32 rfl rfl d kk
theorem yl_33 (X : yX own p m c cc nL s args D ca ad A) (hw : yW D ca A ad s H locs u) {i : Int} (ri : inR i) (d : decode cc pc = .ok (.iaload, 1)) {P : Int → Prop} (h : bd i 128 (rd (u.2.1 33 i) P)) (kk : ∀ v, inR v → P v → W p l e R s m args below meth c H locs 0 0 Q (F0 m (pc + 1) ls (.int (jI v) :: rest))) : W p l e R s m args below meth c H locs 0 0 Q (F0 m pc ls (.int (jI i) :: .ref (ad 1 33) :: rest)) := by
  refine va_iald X.1.1 X.1.2.1 X.2.1 hw.1 43 0 yGa_33 rfl (jI_in rfl h.1 h.2.1 ri) d ?_
  rw [jI_cl ri, Int.toNat_of_nonneg h.1]
  exact kk _ (hw.2.2.2.1.2.1 33 i) (h.2.2 _ rfl (hw.2.2.2.1.2.1 33 i))
theorem yt_33 (X : yX own p m c cc nL s args D ca ad A) (hw : yW D ca A ad s H locs u) {i v : Int} (ri : inR i) (hv : inR v) (d : decode cc pc = .ok (.iastore, 1)) {P : iST → Prop} (h : bd i 128 (sw (iA u 33 i v) P)) (kk : ∀ (H : Heap) (locs : List Loc) (u : iST), yW D ca A ad s H locs u → P u → W p l e R s m args below meth c H locs 0 0 Q (F0 m (pc + 1) ls (rest))) : W p l e R s m args below meth c H locs 0 0 Q (F0 m pc ls (.int (jI v) :: .int (jI i) :: .ref (ad 1 33) :: rest)) := by
  refine va_iast X.1.1 X.1.2.1 X.2.1 hw.1 hw.2.1 hw.2.2.1 43 0 yGa_33 rfl (jI_in rfl h.1 h.2.1 ri) d (fun H locs hP hD hS => ?_)
  rw [jI_cl ri, yPa_33 h.1] at hP hD
  exact kk H locs _ ⟨hP, hD, hS, yR_A hw.2.2.2.1 33 i hv (fun q => absurd q (by decide)) (fun q => absurd q (by decide)) (fun q => absurd q (by decide)), hw.2.2.2.2⟩ (h.2.2 _ rfl)
theorem yn_33 (X : yX own p m c cc nL s args D ca ad A) (hw : yW D ca A ad s H locs u) (d : decode cc pc = .ok (.arraylength, 1)) (kk : W p l e R s m args below meth c H locs 0 0 Q (F0 m (pc + 1) ls (.int (jI 128) :: rest))) : W p l e R s m args below meth c H locs 0 0 Q (F0 m pc ls (.ref (ad 1 33) :: rest)) :=
  va_alen X.1.1 X.1.2.1 X.2.1 hw.1 43 0 yGa_33 rfl rfl d kk
theorem yl_34 (X : yX own p m c cc nL s args D ca ad A) (hw : yW D ca A ad s H locs u) {i : Int} (ri : inR i) (d : decode cc pc = .ok (.iaload, 1)) {P : Int → Prop} (h : bd i 6 (rd (u.2.1 34 i) P)) (kk : ∀ v, inR v → P v → W p l e R s m args below meth c H locs 0 0 Q (F0 m (pc + 1) ls (.int (jI v) :: rest))) : W p l e R s m args below meth c H locs 0 0 Q (F0 m pc ls (.int (jI i) :: .ref (ad 1 34) :: rest)) := by
  refine va_iald X.1.1 X.1.2.1 X.2.1 hw.1 44 0 yGa_34 rfl (jI_in rfl h.1 h.2.1 ri) d ?_
  rw [jI_cl ri, Int.toNat_of_nonneg h.1]
  exact kk _ (hw.2.2.2.1.2.1 34 i) (h.2.2 _ rfl (hw.2.2.2.1.2.1 34 i))
theorem yt_34 (X : yX own p m c cc nL s args D ca ad A) (hw : yW D ca A ad s H locs u) {i v : Int} (ri : inR i) (hv : inR v) (d : decode cc pc = .ok (.iastore, 1)) {P : iST → Prop} (h : bd i 6 (sw (iA u 34 i v) P)) (kk : ∀ (H : Heap) (locs : List Loc) (u : iST), yW D ca A ad s H locs u → P u → W p l e R s m args below meth c H locs 0 0 Q (F0 m (pc + 1) ls (rest))) : W p l e R s m args below meth c H locs 0 0 Q (F0 m pc ls (.int (jI v) :: .int (jI i) :: .ref (ad 1 34) :: rest)) := by
  refine va_iast X.1.1 X.1.2.1 X.2.1 hw.1 hw.2.1 hw.2.2.1 44 0 yGa_34 rfl (jI_in rfl h.1 h.2.1 ri) d (fun H locs hP hD hS => ?_)
  rw [jI_cl ri, yPa_34 h.1] at hP hD
  exact kk H locs _ ⟨hP, hD, hS, yR_A hw.2.2.2.1 34 i hv (fun q => absurd q (by decide)) (fun q => absurd q (by decide)) (fun q => absurd q (by decide)), hw.2.2.2.2⟩ (h.2.2 _ rfl)
theorem yn_34 (X : yX own p m c cc nL s args D ca ad A) (hw : yW D ca A ad s H locs u) (d : decode cc pc = .ok (.arraylength, 1)) (kk : W p l e R s m args below meth c H locs 0 0 Q (F0 m (pc + 1) ls (.int (jI 6) :: rest))) : W p l e R s m args below meth c H locs 0 0 Q (F0 m pc ls (.ref (ad 1 34) :: rest)) :=
  va_alen X.1.1 X.1.2.1 X.2.1 hw.1 44 0 yGa_34 rfl rfl d kk
theorem yl_35 (X : yX own p m c cc nL s args D ca ad A) (hw : yW D ca A ad s H locs u) {i : Int} (ri : inR i) (d : decode cc pc = .ok (.iaload, 1)) {P : Int → Prop} (h : bd i 256 (rd (u.2.1 35 i) P)) (kk : ∀ v, inR v → P v → W p l e R s m args below meth c H locs 0 0 Q (F0 m (pc + 1) ls (.int (jI v) :: rest))) : W p l e R s m args below meth c H locs 0 0 Q (F0 m pc ls (.int (jI i) :: .ref (ad 1 35) :: rest)) := by
  refine va_iald X.1.1 X.1.2.1 X.2.1 hw.1 45 0 yGa_35 rfl (jI_in rfl h.1 h.2.1 ri) d ?_
  rw [jI_cl ri, Int.toNat_of_nonneg h.1]
  exact kk _ (hw.2.2.2.1.2.1 35 i) (h.2.2 _ rfl (hw.2.2.2.1.2.1 35 i))
theorem yt_35 (X : yX own p m c cc nL s args D ca ad A) (hw : yW D ca A ad s H locs u) {i v : Int} (ri : inR i) (hv : inR v) (d : decode cc pc = .ok (.iastore, 1)) {P : iST → Prop} (h : bd i 256 (sw (iA u 35 i v) P)) (kk : ∀ (H : Heap) (locs : List Loc) (u : iST), yW D ca A ad s H locs u → P u → W p l e R s m args below meth c H locs 0 0 Q (F0 m (pc + 1) ls (rest))) : W p l e R s m args below meth c H locs 0 0 Q (F0 m pc ls (.int (jI v) :: .int (jI i) :: .ref (ad 1 35) :: rest)) := by
  refine va_iast X.1.1 X.1.2.1 X.2.1 hw.1 hw.2.1 hw.2.2.1 45 0 yGa_35 rfl (jI_in rfl h.1 h.2.1 ri) d (fun H locs hP hD hS => ?_)
  rw [jI_cl ri, yPa_35 h.1] at hP hD
  exact kk H locs _ ⟨hP, hD, hS, yR_A hw.2.2.2.1 35 i hv (fun q => absurd q (by decide)) (fun q => absurd q (by decide)) (fun q => absurd q (by decide)), hw.2.2.2.2⟩ (h.2.2 _ rfl)
theorem yn_35 (X : yX own p m c cc nL s args D ca ad A) (hw : yW D ca A ad s H locs u) (d : decode cc pc = .ok (.arraylength, 1)) (kk : W p l e R s m args below meth c H locs 0 0 Q (F0 m (pc + 1) ls (.int (jI 256) :: rest))) : W p l e R s m args below meth c H locs 0 0 Q (F0 m pc ls (.ref (ad 1 35) :: rest)) :=
  va_alen X.1.1 X.1.2.1 X.2.1 hw.1 45 0 yGa_35 rfl rfl d kk
theorem yl_36 (X : yX own p m c cc nL s args D ca ad A) (hw : yW D ca A ad s H locs u) {i : Int} (ri : inR i) (d : decode cc pc = .ok (.iaload, 1)) {P : Int → Prop} (h : bd i 256 (rd (u.2.1 36 i) P)) (kk : ∀ v, inR v → P v → W p l e R s m args below meth c H locs 0 0 Q (F0 m (pc + 1) ls (.int (jI v) :: rest))) : W p l e R s m args below meth c H locs 0 0 Q (F0 m pc ls (.int (jI i) :: .ref (ad 1 36) :: rest)) := by
  refine va_iald X.1.1 X.1.2.1 X.2.1 hw.1 46 0 yGa_36 rfl (jI_in rfl h.1 h.2.1 ri) d ?_
  rw [jI_cl ri, Int.toNat_of_nonneg h.1]
  exact kk _ (hw.2.2.2.1.2.1 36 i) (h.2.2 _ rfl (hw.2.2.2.1.2.1 36 i))
theorem yt_36 (X : yX own p m c cc nL s args D ca ad A) (hw : yW D ca A ad s H locs u) {i v : Int} (ri : inR i) (hv : inR v) (d : decode cc pc = .ok (.iastore, 1)) {P : iST → Prop} (h : bd i 256 (sw (iA u 36 i v) P)) (kk : ∀ (H : Heap) (locs : List Loc) (u : iST), yW D ca A ad s H locs u → P u → W p l e R s m args below meth c H locs 0 0 Q (F0 m (pc + 1) ls (rest))) : W p l e R s m args below meth c H locs 0 0 Q (F0 m pc ls (.int (jI v) :: .int (jI i) :: .ref (ad 1 36) :: rest)) := by
  refine va_iast X.1.1 X.1.2.1 X.2.1 hw.1 hw.2.1 hw.2.2.1 46 0 yGa_36 rfl (jI_in rfl h.1 h.2.1 ri) d (fun H locs hP hD hS => ?_)
  rw [jI_cl ri, yPa_36 h.1] at hP hD
  exact kk H locs _ ⟨hP, hD, hS, yR_A hw.2.2.2.1 36 i hv (fun q => absurd q (by decide)) (fun q => absurd q (by decide)) (fun q => absurd q (by decide)), hw.2.2.2.2⟩ (h.2.2 _ rfl)
theorem yn_36 (X : yX own p m c cc nL s args D ca ad A) (hw : yW D ca A ad s H locs u) (d : decode cc pc = .ok (.arraylength, 1)) (kk : W p l e R s m args below meth c H locs 0 0 Q (F0 m (pc + 1) ls (.int (jI 256) :: rest))) : W p l e R s m args below meth c H locs 0 0 Q (F0 m pc ls (.ref (ad 1 36) :: rest)) :=
  va_alen X.1.1 X.1.2.1 X.2.1 hw.1 46 0 yGa_36 rfl rfl d kk
theorem yl_37 (X : yX own p m c cc nL s args D ca ad A) (hw : yW D ca A ad s H locs u) {i : Int} (ri : inR i) (d : decode cc pc = .ok (.iaload, 1)) {P : Int → Prop} (h : bd i 128 (rd (u.2.1 37 i) P)) (kk : ∀ v, inR v → P v → W p l e R s m args below meth c H locs 0 0 Q (F0 m (pc + 1) ls (.int (jI v) :: rest))) : W p l e R s m args below meth c H locs 0 0 Q (F0 m pc ls (.int (jI i) :: .ref (ad 1 37) :: rest)) := by
  refine va_iald X.1.1 X.1.2.1 X.2.1 hw.1 47 0 yGa_37 rfl (jI_in rfl h.1 h.2.1 ri) d ?_
  rw [jI_cl ri, Int.toNat_of_nonneg h.1]
  exact kk _ (hw.2.2.2.1.2.1 37 i) (h.2.2 _ rfl (hw.2.2.2.1.2.1 37 i))
theorem yt_37 (X : yX own p m c cc nL s args D ca ad A) (hw : yW D ca A ad s H locs u) {i v : Int} (ri : inR i) (hv : inR v) (d : decode cc pc = .ok (.iastore, 1)) {P : iST → Prop} (h : bd i 128 (sw (iA u 37 i v) P)) (kk : ∀ (H : Heap) (locs : List Loc) (u : iST), yW D ca A ad s H locs u → P u → W p l e R s m args below meth c H locs 0 0 Q (F0 m (pc + 1) ls (rest))) : W p l e R s m args below meth c H locs 0 0 Q (F0 m pc ls (.int (jI v) :: .int (jI i) :: .ref (ad 1 37) :: rest)) := by
  refine va_iast X.1.1 X.1.2.1 X.2.1 hw.1 hw.2.1 hw.2.2.1 47 0 yGa_37 rfl (jI_in rfl h.1 h.2.1 ri) d (fun H locs hP hD hS => ?_)
  rw [jI_cl ri, yPa_37 h.1] at hP hD
  exact kk H locs _ ⟨hP, hD, hS, yR_A hw.2.2.2.1 37 i hv (fun q => absurd q (by decide)) (fun q => absurd q (by decide)) (fun q => absurd q (by decide)), hw.2.2.2.2⟩ (h.2.2 _ rfl)
theorem yn_37 (X : yX own p m c cc nL s args D ca ad A) (hw : yW D ca A ad s H locs u) (d : decode cc pc = .ok (.arraylength, 1)) (kk : W p l e R s m args below meth c H locs 0 0 Q (F0 m (pc + 1) ls (.int (jI 128) :: rest))) : W p l e R s m args below meth c H locs 0 0 Q (F0 m pc ls (.ref (ad 1 37) :: rest)) :=
  va_alen X.1.1 X.1.2.1 X.2.1 hw.1 47 0 yGa_37 rfl rfl d kk
theorem yl_38 (X : yX own p m c cc nL s args D ca ad A) (hw : yW D ca A ad s H locs u) {i : Int} (ri : inR i) (d : decode cc pc = .ok (.iaload, 1)) {P : Int → Prop} (h : bd i 128 (rd (u.2.1 38 i) P)) (kk : ∀ v, inR v → P v → W p l e R s m args below meth c H locs 0 0 Q (F0 m (pc + 1) ls (.int (jI v) :: rest))) : W p l e R s m args below meth c H locs 0 0 Q (F0 m pc ls (.int (jI i) :: .ref (ad 1 38) :: rest)) := by
  refine va_iald X.1.1 X.1.2.1 X.2.1 hw.1 48 0 yGa_38 rfl (jI_in rfl h.1 h.2.1 ri) d ?_
  rw [jI_cl ri, Int.toNat_of_nonneg h.1]
  exact kk _ (hw.2.2.2.1.2.1 38 i) (h.2.2 _ rfl (hw.2.2.2.1.2.1 38 i))
theorem yt_38 (X : yX own p m c cc nL s args D ca ad A) (hw : yW D ca A ad s H locs u) {i v : Int} (ri : inR i) (hv : inR v) (d : decode cc pc = .ok (.iastore, 1)) {P : iST → Prop} (h : bd i 128 (sw (iA u 38 i v) P)) (kk : ∀ (H : Heap) (locs : List Loc) (u : iST), yW D ca A ad s H locs u → P u → W p l e R s m args below meth c H locs 0 0 Q (F0 m (pc + 1) ls (rest))) : W p l e R s m args below meth c H locs 0 0 Q (F0 m pc ls (.int (jI v) :: .int (jI i) :: .ref (ad 1 38) :: rest)) := by
  refine va_iast X.1.1 X.1.2.1 X.2.1 hw.1 hw.2.1 hw.2.2.1 48 0 yGa_38 rfl (jI_in rfl h.1 h.2.1 ri) d (fun H locs hP hD hS => ?_)
  rw [jI_cl ri, yPa_38 h.1] at hP hD
  exact kk H locs _ ⟨hP, hD, hS, yR_A hw.2.2.2.1 38 i hv (fun q => absurd q (by decide)) (fun q => absurd q (by decide)) (fun q => absurd q (by decide)), hw.2.2.2.2⟩ (h.2.2 _ rfl)
theorem yn_38 (X : yX own p m c cc nL s args D ca ad A) (hw : yW D ca A ad s H locs u) (d : decode cc pc = .ok (.arraylength, 1)) (kk : W p l e R s m args below meth c H locs 0 0 Q (F0 m (pc + 1) ls (.int (jI 128) :: rest))) : W p l e R s m args below meth c H locs 0 0 Q (F0 m pc ls (.ref (ad 1 38) :: rest)) :=
  va_alen X.1.1 X.1.2.1 X.2.1 hw.1 48 0 yGa_38 rfl rfl d kk
theorem yl_39 (X : yX own p m c cc nL s args D ca ad A) (hw : yW D ca A ad s H locs u) {i : Int} (ri : inR i) (d : decode cc pc = .ok (.iaload, 1)) {P : Int → Prop} (h : bd i 128 (rd (u.2.1 39 i) P)) (kk : ∀ v, inR v → P v → W p l e R s m args below meth c H locs 0 0 Q (F0 m (pc + 1) ls (.int (jI v) :: rest))) : W p l e R s m args below meth c H locs 0 0 Q (F0 m pc ls (.int (jI i) :: .ref (ad 1 39) :: rest)) := by
  refine va_iald X.1.1 X.1.2.1 X.2.1 hw.1 49 0 yGa_39 rfl (jI_in rfl h.1 h.2.1 ri) d ?_
  rw [jI_cl ri, Int.toNat_of_nonneg h.1]
  exact kk _ (hw.2.2.2.1.2.1 39 i) (h.2.2 _ rfl (hw.2.2.2.1.2.1 39 i))
theorem yt_39 (X : yX own p m c cc nL s args D ca ad A) (hw : yW D ca A ad s H locs u) {i v : Int} (ri : inR i) (hv : inR v) (d : decode cc pc = .ok (.iastore, 1)) {P : iST → Prop} (h : bd i 128 (sw (iA u 39 i v) P)) (kk : ∀ (H : Heap) (locs : List Loc) (u : iST), yW D ca A ad s H locs u → P u → W p l e R s m args below meth c H locs 0 0 Q (F0 m (pc + 1) ls (rest))) : W p l e R s m args below meth c H locs 0 0 Q (F0 m pc ls (.int (jI v) :: .int (jI i) :: .ref (ad 1 39) :: rest)) := by
  refine va_iast X.1.1 X.1.2.1 X.2.1 hw.1 hw.2.1 hw.2.2.1 49 0 yGa_39 rfl (jI_in rfl h.1 h.2.1 ri) d (fun H locs hP hD hS => ?_)
  rw [jI_cl ri, yPa_39 h.1] at hP hD
  exact kk H locs _ ⟨hP, hD, hS, yR_A hw.2.2.2.1 39 i hv (fun q => absurd q (by decide)) (fun q => absurd q (by decide)) (fun q => absurd q (by decide)), hw.2.2.2.2⟩ (h.2.2 _ rfl)
theorem yn_39 (X : yX own p m c cc nL s args D ca ad A) (hw : yW D ca A ad s H locs u) (d : decode cc pc = .ok (.arraylength, 1)) (kk : W p l e R s m args below meth c H locs 0 0 Q (F0 m (pc + 1) ls (.int (jI 128) :: rest))) : W p l e R s m args below meth c H locs 0 0 Q (F0 m pc ls (.ref (ad 1 39) :: rest)) :=
  va_alen X.1.1 X.1.2.1 X.2.1 hw.1 49 0 yGa_39 rfl rfl d kk
theorem yl_40 (X : yX own p m c cc nL s args D ca ad A) (hw : yW D ca A ad s H locs u) {i : Int} (ri : inR i) (d : decode cc pc = .ok (.iaload, 1)) {P : Int → Prop} (h : bd i 768 (rd (u.2.1 40 i) P)) (kk : ∀ v, inR v → P v → W p l e R s m args below meth c H locs 0 0 Q (F0 m (pc + 1) ls (.int (jI v) :: rest))) : W p l e R s m args below meth c H locs 0 0 Q (F0 m pc ls (.int (jI i) :: .ref (ad 1 40) :: rest)) := by
  refine va_iald X.1.1 X.1.2.1 X.2.1 hw.1 50 0 yGa_40 rfl (jI_in rfl h.1 h.2.1 ri) d ?_
  rw [jI_cl ri, Int.toNat_of_nonneg h.1]
  exact kk _ (hw.2.2.2.1.2.1 40 i) (h.2.2 _ rfl (hw.2.2.2.1.2.1 40 i))
theorem yt_40 (X : yX own p m c cc nL s args D ca ad A) (hw : yW D ca A ad s H locs u) {i v : Int} (ri : inR i) (hv : inR v) (d : decode cc pc = .ok (.iastore, 1)) {P : iST → Prop} (h : bd i 768 (sw (iA u 40 i v) P)) (kk : ∀ (H : Heap) (locs : List Loc) (u : iST), yW D ca A ad s H locs u → P u → W p l e R s m args below meth c H locs 0 0 Q (F0 m (pc + 1) ls (rest))) : W p l e R s m args below meth c H locs 0 0 Q (F0 m pc ls (.int (jI v) :: .int (jI i) :: .ref (ad 1 40) :: rest)) := by
  refine va_iast X.1.1 X.1.2.1 X.2.1 hw.1 hw.2.1 hw.2.2.1 50 0 yGa_40 rfl (jI_in rfl h.1 h.2.1 ri) d (fun H locs hP hD hS => ?_)
  rw [jI_cl ri, yPa_40 h.1] at hP hD
  exact kk H locs _ ⟨hP, hD, hS, yR_A hw.2.2.2.1 40 i hv (fun q => absurd q (by decide)) (fun q => absurd q (by decide)) (fun q => absurd q (by decide)), hw.2.2.2.2⟩ (h.2.2 _ rfl)
theorem yn_40 (X : yX own p m c cc nL s args D ca ad A) (hw : yW D ca A ad s H locs u) (d : decode cc pc = .ok (.arraylength, 1)) (kk : W p l e R s m args below meth c H locs 0 0 Q (F0 m (pc + 1) ls (.int (jI 768) :: rest))) : W p l e R s m args below meth c H locs 0 0 Q (F0 m pc ls (.ref (ad 1 40) :: rest)) :=
  va_alen X.1.1 X.1.2.1 X.2.1 hw.1 50 0 yGa_40 rfl rfl d kk
theorem yl_41 (X : yX own p m c cc nL s args D ca ad A) (hw : yW D ca A ad s H locs u) {i : Int} (ri : inR i) (d : decode cc pc = .ok (.iaload, 1)) {P : Int → Prop} (h : bd i 128 (rd (u.2.1 41 i) P)) (kk : ∀ v, inR v → P v → W p l e R s m args below meth c H locs 0 0 Q (F0 m (pc + 1) ls (.int (jI v) :: rest))) : W p l e R s m args below meth c H locs 0 0 Q (F0 m pc ls (.int (jI i) :: .ref (ad 1 41) :: rest)) := by
  refine va_iald X.1.1 X.1.2.1 X.2.1 hw.1 51 0 yGa_41 rfl (jI_in rfl h.1 h.2.1 ri) d ?_
  rw [jI_cl ri, Int.toNat_of_nonneg h.1]
  exact kk _ (hw.2.2.2.1.2.1 41 i) (h.2.2 _ rfl (hw.2.2.2.1.2.1 41 i))
theorem yt_41 (X : yX own p m c cc nL s args D ca ad A) (hw : yW D ca A ad s H locs u) {i v : Int} (ri : inR i) (hv : inR v) (d : decode cc pc = .ok (.iastore, 1)) {P : iST → Prop} (h : bd i 128 (sw (iA u 41 i v) P)) (kk : ∀ (H : Heap) (locs : List Loc) (u : iST), yW D ca A ad s H locs u → P u → W p l e R s m args below meth c H locs 0 0 Q (F0 m (pc + 1) ls (rest))) : W p l e R s m args below meth c H locs 0 0 Q (F0 m pc ls (.int (jI v) :: .int (jI i) :: .ref (ad 1 41) :: rest)) := by
  refine va_iast X.1.1 X.1.2.1 X.2.1 hw.1 hw.2.1 hw.2.2.1 51 0 yGa_41 rfl (jI_in rfl h.1 h.2.1 ri) d (fun H locs hP hD hS => ?_)
  rw [jI_cl ri, yPa_41 h.1] at hP hD
  exact kk H locs _ ⟨hP, hD, hS, yR_A hw.2.2.2.1 41 i hv (fun q => absurd q (by decide)) (fun q => absurd q (by decide)) (fun q => absurd q (by decide)), hw.2.2.2.2⟩ (h.2.2 _ rfl)
theorem yn_41 (X : yX own p m c cc nL s args D ca ad A) (hw : yW D ca A ad s H locs u) (d : decode cc pc = .ok (.arraylength, 1)) (kk : W p l e R s m args below meth c H locs 0 0 Q (F0 m (pc + 1) ls (.int (jI 128) :: rest))) : W p l e R s m args below meth c H locs 0 0 Q (F0 m pc ls (.ref (ad 1 41) :: rest)) :=
  va_alen X.1.1 X.1.2.1 X.2.1 hw.1 51 0 yGa_41 rfl rfl d kk
theorem yl_42 (X : yX own p m c cc nL s args D ca ad A) (hw : yW D ca A ad s H locs u) {i : Int} (ri : inR i) (d : decode cc pc = .ok (.iaload, 1)) {P : Int → Prop} (h : bd i 128 (rd (u.2.1 42 i) P)) (kk : ∀ v, inR v → P v → W p l e R s m args below meth c H locs 0 0 Q (F0 m (pc + 1) ls (.int (jI v) :: rest))) : W p l e R s m args below meth c H locs 0 0 Q (F0 m pc ls (.int (jI i) :: .ref (ad 1 42) :: rest)) := by
  refine va_iald X.1.1 X.1.2.1 X.2.1 hw.1 52 0 yGa_42 rfl (jI_in rfl h.1 h.2.1 ri) d ?_
  rw [jI_cl ri, Int.toNat_of_nonneg h.1]
  exact kk _ (hw.2.2.2.1.2.1 42 i) (h.2.2 _ rfl (hw.2.2.2.1.2.1 42 i))
theorem yt_42 (X : yX own p m c cc nL s args D ca ad A) (hw : yW D ca A ad s H locs u) {i v : Int} (ri : inR i) (hv : inR v) (d : decode cc pc = .ok (.iastore, 1)) {P : iST → Prop} (h : bd i 128 (sw (iA u 42 i v) P)) (kk : ∀ (H : Heap) (locs : List Loc) (u : iST), yW D ca A ad s H locs u → P u → W p l e R s m args below meth c H locs 0 0 Q (F0 m (pc + 1) ls (rest))) : W p l e R s m args below meth c H locs 0 0 Q (F0 m pc ls (.int (jI v) :: .int (jI i) :: .ref (ad 1 42) :: rest)) := by
  refine va_iast X.1.1 X.1.2.1 X.2.1 hw.1 hw.2.1 hw.2.2.1 52 0 yGa_42 rfl (jI_in rfl h.1 h.2.1 ri) d (fun H locs hP hD hS => ?_)
  rw [jI_cl ri, yPa_42 h.1] at hP hD
  exact kk H locs _ ⟨hP, hD, hS, yR_A hw.2.2.2.1 42 i hv (fun q => absurd q (by decide)) (fun q => absurd q (by decide)) (fun q => absurd q (by decide)), hw.2.2.2.2⟩ (h.2.2 _ rfl)
theorem yn_42 (X : yX own p m c cc nL s args D ca ad A) (hw : yW D ca A ad s H locs u) (d : decode cc pc = .ok (.arraylength, 1)) (kk : W p l e R s m args below meth c H locs 0 0 Q (F0 m (pc + 1) ls (.int (jI 128) :: rest))) : W p l e R s m args below meth c H locs 0 0 Q (F0 m pc ls (.ref (ad 1 42) :: rest)) :=
  va_alen X.1.1 X.1.2.1 X.2.1 hw.1 52 0 yGa_42 rfl rfl d kk
theorem yl_43 (X : yX own p m c cc nL s args D ca ad A) (hw : yW D ca A ad s H locs u) {i : Int} (ri : inR i) (d : decode cc pc = .ok (.iaload, 1)) {P : Int → Prop} (h : bd i 128 (rd (u.2.1 43 i) P)) (kk : ∀ v, inR v → P v → W p l e R s m args below meth c H locs 0 0 Q (F0 m (pc + 1) ls (.int (jI v) :: rest))) : W p l e R s m args below meth c H locs 0 0 Q (F0 m pc ls (.int (jI i) :: .ref (ad 1 43) :: rest)) := by
  refine va_iald X.1.1 X.1.2.1 X.2.1 hw.1 53 0 yGa_43 rfl (jI_in rfl h.1 h.2.1 ri) d ?_
  rw [jI_cl ri, Int.toNat_of_nonneg h.1]
  exact kk _ (hw.2.2.2.1.2.1 43 i) (h.2.2 _ rfl (hw.2.2.2.1.2.1 43 i))
theorem yt_43 (X : yX own p m c cc nL s args D ca ad A) (hw : yW D ca A ad s H locs u) {i v : Int} (ri : inR i) (hv : inR v) (d : decode cc pc = .ok (.iastore, 1)) {P : iST → Prop} (h : bd i 128 (sw (iA u 43 i v) P)) (kk : ∀ (H : Heap) (locs : List Loc) (u : iST), yW D ca A ad s H locs u → P u → W p l e R s m args below meth c H locs 0 0 Q (F0 m (pc + 1) ls (rest))) : W p l e R s m args below meth c H locs 0 0 Q (F0 m pc ls (.int (jI v) :: .int (jI i) :: .ref (ad 1 43) :: rest)) := by
  refine va_iast X.1.1 X.1.2.1 X.2.1 hw.1 hw.2.1 hw.2.2.1 53 0 yGa_43 rfl (jI_in rfl h.1 h.2.1 ri) d (fun H locs hP hD hS => ?_)
  rw [jI_cl ri, yPa_43 h.1] at hP hD
  exact kk H locs _ ⟨hP, hD, hS, yR_A hw.2.2.2.1 43 i hv (fun q => absurd q (by decide)) (fun q => absurd q (by decide)) (fun q => absurd q (by decide)), hw.2.2.2.2⟩ (h.2.2 _ rfl)
theorem yn_43 (X : yX own p m c cc nL s args D ca ad A) (hw : yW D ca A ad s H locs u) (d : decode cc pc = .ok (.arraylength, 1)) (kk : W p l e R s m args below meth c H locs 0 0 Q (F0 m (pc + 1) ls (.int (jI 128) :: rest))) : W p l e R s m args below meth c H locs 0 0 Q (F0 m pc ls (.ref (ad 1 43) :: rest)) :=
  va_alen X.1.1 X.1.2.1 X.2.1 hw.1 53 0 yGa_43 rfl rfl d kk
theorem yl_44 (X : yX own p m c cc nL s args D ca ad A) (hw : yW D ca A ad s H locs u) {i : Int} (ri : inR i) (d : decode cc pc = .ok (.caload, 1)) {P : Int → Prop} (h : bd i 3000 (rh (u.2.1 44 i) P)) (kk : ∀ v, inC v → P v → W p l e R s m args below meth c H locs 0 0 Q (F0 m (pc + 1) ls (.int (jI v) :: rest))) : W p l e R s m args below meth c H locs 0 0 Q (F0 m pc ls (.int (jI i) :: .ref (ad 1 44) :: rest)) := by
  refine va_cald X.1.1 X.1.2.1 X.2.1 hw.1 54 2 yGa_44 rfl (jI_in rfl h.1 h.2.1 ri) d ?_
  rw [jI_cl ri, Int.toNat_of_nonneg h.1]
  exact kk _ (hw.2.2.2.1.2.2.2.2.2.1 44 (by decide) i) (h.2.2 _ rfl (hw.2.2.2.1.2.2.2.2.2.1 44 (by decide) i))
theorem yt_44 (X : yX own p m c cc nL s args D ca ad A) (hw : yW D ca A ad s H locs u) {i v : Int} (ri : inR i) (d : decode cc pc = .ok (.castore, 1)) {P : iST → Prop} (h : hc v (bd i 3000 (sw (iA u 44 i v) P))) (kk : ∀ (H : Heap) (locs : List Loc) (u : iST), yW D ca A ad s H locs u → P u → W p l e R s m args below meth c H locs 0 0 Q (F0 m (pc + 1) ls (rest))) : W p l e R s m args below meth c H locs 0 0 Q (F0 m pc ls (.int (jI v) :: .int (jI i) :: .ref (ad 1 44) :: rest)) := by
  refine va_cast X.1.1 X.1.2.1 X.2.1 hw.1 hw.2.1 hw.2.2.1 54 2 yGa_44 rfl (jI_in rfl h.2.1 h.2.2.1 ri) d (fun H locs hP hD hS => ?_)
  rw [inC_vp h.1, jI_cl ri, yPa_44 h.2.1] at hP hD
  exact kk H locs _ ⟨hP, hD, hS, yR_A hw.2.2.2.1 44 i (inC_in h.1) (fun q => absurd q (by decide)) (fun _ => h.1) (fun q => absurd q (by decide)), hw.2.2.2.2⟩ (h.2.2.2 _ rfl)
theorem yn_44 (X : yX own p m c cc nL s args D ca ad A) (hw : yW D ca A ad s H locs u) (d : decode cc pc = .ok (.arraylength, 1)) (kk : W p l e R s m args below meth c H locs 0 0 Q (F0 m (pc + 1) ls (.int (jI 3000) :: rest))) : W p l e R s m args below meth c H locs 0 0 Q (F0 m pc ls (.ref (ad 1 44) :: rest)) :=
  va_alen X.1.1 X.1.2.1 X.2.1 hw.1 54 2 yGa_44 rfl rfl d kk
theorem yl_45 (X : yX own p m c cc nL s args D ca ad A) (hw : yW D ca A ad s H locs u) {i : Int} (ri : inR i) (d : decode cc pc = .ok (.iaload, 1)) {P : Int → Prop} (h : bd i 5 (rd (u.2.1 45 i) P)) (kk : ∀ v, inR v → P v → W p l e R s m args below meth c H locs 0 0 Q (F0 m (pc + 1) ls (.int (jI v) :: rest))) : W p l e R s m args below meth c H locs 0 0 Q (F0 m pc ls (.int (jI i) :: .ref (ad 1 45) :: rest)) := by
  refine va_iald X.1.1 X.1.2.1 X.2.1 hw.1 55 0 yGa_45 rfl (jI_in rfl h.1 h.2.1 ri) d ?_
  rw [jI_cl ri, Int.toNat_of_nonneg h.1]
  exact kk _ (hw.2.2.2.1.2.1 45 i) (h.2.2 _ rfl (hw.2.2.2.1.2.1 45 i))
theorem yt_45 (X : yX own p m c cc nL s args D ca ad A) (hw : yW D ca A ad s H locs u) {i v : Int} (ri : inR i) (hv : inR v) (d : decode cc pc = .ok (.iastore, 1)) {P : iST → Prop} (h : bd i 5 (sw (iA u 45 i v) P)) (kk : ∀ (H : Heap) (locs : List Loc) (u : iST), yW D ca A ad s H locs u → P u → W p l e R s m args below meth c H locs 0 0 Q (F0 m (pc + 1) ls (rest))) : W p l e R s m args below meth c H locs 0 0 Q (F0 m pc ls (.int (jI v) :: .int (jI i) :: .ref (ad 1 45) :: rest)) := by
  refine va_iast X.1.1 X.1.2.1 X.2.1 hw.1 hw.2.1 hw.2.2.1 55 0 yGa_45 rfl (jI_in rfl h.1 h.2.1 ri) d (fun H locs hP hD hS => ?_)
  rw [jI_cl ri, yPa_45 h.1] at hP hD
  exact kk H locs _ ⟨hP, hD, hS, yR_A hw.2.2.2.1 45 i hv (fun q => absurd q (by decide)) (fun q => absurd q (by decide)) (fun q => absurd q (by decide)), hw.2.2.2.2⟩ (h.2.2 _ rfl)
theorem yn_45 (X : yX own p m c cc nL s args D ca ad A) (hw : yW D ca A ad s H locs u) (d : decode cc pc = .ok (.arraylength, 1)) (kk : W p l e R s m args below meth c H locs 0 0 Q (F0 m (pc + 1) ls (.int (jI 5) :: rest))) : W p l e R s m args below meth c H locs 0 0 Q (F0 m pc ls (.ref (ad 1 45) :: rest)) :=
  va_alen X.1.1 X.1.2.1 X.2.1 hw.1 55 0 yGa_45 rfl rfl d kk
theorem yJl (X : yX own p m c cc nL s args D ca ad A) (hw : yW D ca A ad s H locs u) {i : Int} (ri : inR i) (d : decode cc pc = .ok (.laload, 1)) {P : Int → Prop} (h : bd i 160000 (rl (u.2.2 i) P)) (kk : ∀ v, inL v → P v → W p l e R s m args below meth c H locs 0 0 Q (F0 m (pc + 1) ls (.long (jL v) :: rest))) : W p l e R s m args below meth c H locs 0 0 Q (F0 m pc ls (.int (jI i) :: .ref (ad 2 0) :: rest)) := by
  refine va_lald X.1.1 X.1.2.1 X.2.1 hw.1 56 3 yGl rfl (jI_in rfl h.1 h.2.1 ri) d ?_
  rw [jI_cl ri, Int.toNat_of_nonneg h.1]
  exact kk _ (hw.2.2.2.1.2.2.1 i) (h.2.2 _ rfl (hw.2.2.2.1.2.2.1 i))
theorem yJt (X : yX own p m c cc nL s args D ca ad A) (hw : yW D ca A ad s H locs u) {i v : Int} (ri : inR i) (hv : inL v) (d : decode cc pc = .ok (.lastore, 1)) {P : iST → Prop} (h : bd i 160000 (sw (iL u i v) P)) (kk : ∀ (H : Heap) (locs : List Loc) (u : iST), yW D ca A ad s H locs u → P u → W p l e R s m args below meth c H locs 0 0 Q (F0 m (pc + 1) ls (rest))) : W p l e R s m args below meth c H locs 0 0 Q (F0 m pc ls (.long (jL v) :: .int (jI i) :: .ref (ad 2 0) :: rest)) := by
  refine va_last X.1.1 X.1.2.1 X.2.1 hw.1 hw.2.1 hw.2.2.1 56 3 yGl rfl (jI_in rfl h.1 h.2.1 ri) d (fun H locs hP hD hS => ?_)
  rw [jI_cl ri, yPl h.1] at hP hD
  exact kk H locs _ ⟨hP, hD, hS, yR_L hw.2.2.2.1 i hv, hw.2.2.2.2⟩ (h.2.2 _ rfl)
theorem yfl_lits (X : yX own p m c cc nL s args D ca ad A) (hw : yW D ca A ad s H locs u) {x i : Int} (hx : 0 ≤ x ∧ x < 408) (ri : inR i) (d : decode cc pc = .ok (.iaload, 1)) {P : Int → Prop} (h : bd i 30 (rd (u.2.1 49 (30 * x + i)) P)) (kk : ∀ v, inR v → P v → W p l e R s m args below meth c H locs 0 0 Q (F0 m (pc + 1) ls (.int (jI v) :: rest))) : W p l e R s m args below meth c H locs 0 0 Q (F0 m pc ls (.int (jI i) :: .ref (ad 5 x.toNat) :: rest)) := by
  obtain ⟨n, rfl⟩ := Int.eq_ofNat_of_zero_le hx.1
  have hn : n < 408 := by omega
  have h1 := h.1
  have h2 := h.2.1
  refine va_iald X.1.1 X.1.2.1 X.2.1 hw.1 (473 + n) 0 (yGf_lits hn) rfl (jI_in rfl h1 h2 ri) d ?_
  rw [jI_cl ri]
  obtain ⟨k, rfl⟩ := Int.eq_ofNat_of_zero_le h1
  have hk : k < 30 := by omega
  rw [show ((k : Int)).toNat = k from rfl, if_pos hk]
  exact kk _ (hw.2.2.2.1.2.1 49 (30 * (n : Int) + (k : Int))) (h.2.2 _ rfl (hw.2.2.2.1.2.1 49 (30 * (n : Int) + (k : Int))))
theorem yft_lits (X : yX own p m c cc nL s args D ca ad A) (hw : yW D ca A ad s H locs u) {x i v : Int} (hx : 0 ≤ x ∧ x < 408) (ri : inR i) (hv : inR v) (d : decode cc pc = .ok (.iastore, 1)) {P : iST → Prop} (h : bd i 30 (sw (iA u 49 (30 * x + i) v) P)) (kk : ∀ (H : Heap) (locs : List Loc) (u : iST), yW D ca A ad s H locs u → P u → W p l e R s m args below meth c H locs 0 0 Q (F0 m (pc + 1) ls (rest))) : W p l e R s m args below meth c H locs 0 0 Q (F0 m pc ls (.int (jI v) :: .int (jI i) :: .ref (ad 5 x.toNat) :: rest)) := by
  obtain ⟨n, rfl⟩ := Int.eq_ofNat_of_zero_le hx.1
  have hn : n < 408 := by omega
  have h1 := h.1
  have h2 := h.2.1
  refine va_iast X.1.1 X.1.2.1 X.2.1 hw.1 hw.2.1 hw.2.2.1 (473 + n) 0 (yGf_lits hn) rfl (jI_in rfl h1 h2 ri) d (fun H locs hP hD hS => ?_)
  rw [jI_cl ri, yPf_lits hn h1 (by omega)] at hP hD
  exact kk H locs _ ⟨hP, hD, hS, yR_A hw.2.2.2.1 49 (30 * (n : Int) + i) hv (fun q => absurd q (by decide)) (fun q => absurd q (by decide)) (fun q => absurd q (by decide)), hw.2.2.2.2⟩ (h.2.2 _ rfl)
theorem yfn_lits (X : yX own p m c cc nL s args D ca ad A) (hw : yW D ca A ad s H locs u) {x : Int} (hx : 0 ≤ x ∧ x < 408) (d : decode cc pc = .ok (.arraylength, 1)) (kk : W p l e R s m args below meth c H locs 0 0 Q (F0 m (pc + 1) ls (.int (jI 30) :: rest))) : W p l e R s m args below meth c H locs 0 0 Q (F0 m pc ls (.ref (ad 5 x.toNat) :: rest)) := by
  obtain ⟨n, rfl⟩ := Int.eq_ofNat_of_zero_le hx.1
  have hn : n < 408 := by omega
  refine va_alen X.1.1 X.1.2.1 X.2.1 hw.1 (473 + n) 0 (yGf_lits hn) rfl rfl d kk
theorem yfl_hyps (X : yX own p m c cc nL s args D ca ad A) (hw : yW D ca A ad s H locs u) {x i : Int} (hx : 0 ≤ x ∧ x < 60) (ri : inR i) (d : decode cc pc = .ok (.iaload, 1)) {P : Int → Prop} (h : bd i 60 (rd (u.2.1 50 (60 * x + i)) P)) (kk : ∀ v, inR v → P v → W p l e R s m args below meth c H locs 0 0 Q (F0 m (pc + 1) ls (.int (jI v) :: rest))) : W p l e R s m args below meth c H locs 0 0 Q (F0 m pc ls (.int (jI i) :: .ref (ad 6 x.toNat) :: rest)) := by
  obtain ⟨n, rfl⟩ := Int.eq_ofNat_of_zero_le hx.1
  have hn : n < 60 := by omega
  have h1 := h.1
  have h2 := h.2.1
  refine va_iald X.1.1 X.1.2.1 X.2.1 hw.1 (881 + n) 0 (yGf_hyps hn) rfl (jI_in rfl h1 h2 ri) d ?_
  rw [jI_cl ri]
  obtain ⟨k, rfl⟩ := Int.eq_ofNat_of_zero_le h1
  have hk : k < 60 := by omega
  rw [show ((k : Int)).toNat = k from rfl, if_pos hk]
  exact kk _ (hw.2.2.2.1.2.1 50 (60 * (n : Int) + (k : Int))) (h.2.2 _ rfl (hw.2.2.2.1.2.1 50 (60 * (n : Int) + (k : Int))))
theorem yft_hyps (X : yX own p m c cc nL s args D ca ad A) (hw : yW D ca A ad s H locs u) {x i v : Int} (hx : 0 ≤ x ∧ x < 60) (ri : inR i) (hv : inR v) (d : decode cc pc = .ok (.iastore, 1)) {P : iST → Prop} (h : bd i 60 (sw (iA u 50 (60 * x + i) v) P)) (kk : ∀ (H : Heap) (locs : List Loc) (u : iST), yW D ca A ad s H locs u → P u → W p l e R s m args below meth c H locs 0 0 Q (F0 m (pc + 1) ls (rest))) : W p l e R s m args below meth c H locs 0 0 Q (F0 m pc ls (.int (jI v) :: .int (jI i) :: .ref (ad 6 x.toNat) :: rest)) := by
  obtain ⟨n, rfl⟩ := Int.eq_ofNat_of_zero_le hx.1
  have hn : n < 60 := by omega
  have h1 := h.1
  have h2 := h.2.1
  refine va_iast X.1.1 X.1.2.1 X.2.1 hw.1 hw.2.1 hw.2.2.1 (881 + n) 0 (yGf_hyps hn) rfl (jI_in rfl h1 h2 ri) d (fun H locs hP hD hS => ?_)
  rw [jI_cl ri, yPf_hyps hn h1 (by omega)] at hP hD
  exact kk H locs _ ⟨hP, hD, hS, yR_A hw.2.2.2.1 50 (60 * (n : Int) + i) hv (fun q => absurd q (by decide)) (fun q => absurd q (by decide)) (fun q => absurd q (by decide)), hw.2.2.2.2⟩ (h.2.2 _ rfl)
theorem yfn_hyps (X : yX own p m c cc nL s args D ca ad A) (hw : yW D ca A ad s H locs u) {x : Int} (hx : 0 ≤ x ∧ x < 60) (d : decode cc pc = .ok (.arraylength, 1)) (kk : W p l e R s m args below meth c H locs 0 0 Q (F0 m (pc + 1) ls (.int (jI 60) :: rest))) : W p l e R s m args below meth c H locs 0 0 Q (F0 m pc ls (.ref (ad 6 x.toNat) :: rest)) := by
  obtain ⟨n, rfl⟩ := Int.eq_ofNat_of_zero_le hx.1
  have hn : n < 60 := by omega
  refine va_alen X.1.1 X.1.2.1 X.2.1 hw.1 (881 + n) 0 (yGf_hyps hn) rfl rfl d kk
theorem yfl_frames (X : yX own p m c cc nL s args D ca ad A) (hw : yW D ca A ad s H locs u) {x i : Int} (hx : 0 ≤ x ∧ x < 60) (ri : inR i) (d : decode cc pc = .ok (.iaload, 1)) {P : Int → Prop} (h : bd i 17 (rd (u.2.1 51 (17 * x + i)) P)) (kk : ∀ v, inR v → P v → W p l e R s m args below meth c H locs 0 0 Q (F0 m (pc + 1) ls (.int (jI v) :: rest))) : W p l e R s m args below meth c H locs 0 0 Q (F0 m pc ls (.int (jI i) :: .ref (ad 7 x.toNat) :: rest)) := by
  obtain ⟨n, rfl⟩ := Int.eq_ofNat_of_zero_le hx.1
  have hn : n < 60 := by omega
  have h1 := h.1
  have h2 := h.2.1
  refine va_iald X.1.1 X.1.2.1 X.2.1 hw.1 (941 + n) 0 (yGf_frames hn) rfl (jI_in rfl h1 h2 ri) d ?_
  rw [jI_cl ri]
  obtain ⟨k, rfl⟩ := Int.eq_ofNat_of_zero_le h1
  have hk : k < 17 := by omega
  rw [show ((k : Int)).toNat = k from rfl, if_pos hk]
  exact kk _ (hw.2.2.2.1.2.1 51 (17 * (n : Int) + (k : Int))) (h.2.2 _ rfl (hw.2.2.2.1.2.1 51 (17 * (n : Int) + (k : Int))))
theorem yft_frames (X : yX own p m c cc nL s args D ca ad A) (hw : yW D ca A ad s H locs u) {x i v : Int} (hx : 0 ≤ x ∧ x < 60) (ri : inR i) (hv : inR v) (d : decode cc pc = .ok (.iastore, 1)) {P : iST → Prop} (h : bd i 17 (sw (iA u 51 (17 * x + i) v) P)) (kk : ∀ (H : Heap) (locs : List Loc) (u : iST), yW D ca A ad s H locs u → P u → W p l e R s m args below meth c H locs 0 0 Q (F0 m (pc + 1) ls (rest))) : W p l e R s m args below meth c H locs 0 0 Q (F0 m pc ls (.int (jI v) :: .int (jI i) :: .ref (ad 7 x.toNat) :: rest)) := by
  obtain ⟨n, rfl⟩ := Int.eq_ofNat_of_zero_le hx.1
  have hn : n < 60 := by omega
  have h1 := h.1
  have h2 := h.2.1
  refine va_iast X.1.1 X.1.2.1 X.2.1 hw.1 hw.2.1 hw.2.2.1 (941 + n) 0 (yGf_frames hn) rfl (jI_in rfl h1 h2 ri) d (fun H locs hP hD hS => ?_)
  rw [jI_cl ri, yPf_frames hn h1 (by omega)] at hP hD
  exact kk H locs _ ⟨hP, hD, hS, yR_A hw.2.2.2.1 51 (17 * (n : Int) + i) hv (fun q => absurd q (by decide)) (fun q => absurd q (by decide)) (fun q => absurd q (by decide)), hw.2.2.2.2⟩ (h.2.2 _ rfl)
theorem yfn_frames (X : yX own p m c cc nL s args D ca ad A) (hw : yW D ca A ad s H locs u) {x : Int} (hx : 0 ≤ x ∧ x < 60) (d : decode cc pc = .ok (.arraylength, 1)) (kk : W p l e R s m args below meth c H locs 0 0 Q (F0 m (pc + 1) ls (.int (jI 17) :: rest))) : W p l e R s m args below meth c H locs 0 0 Q (F0 m pc ls (.ref (ad 7 x.toNat) :: rest)) := by
  obtain ⟨n, rfl⟩ := Int.eq_ofNat_of_zero_le hx.1
  have hn : n < 60 := by omega
  refine va_alen X.1.1 X.1.2.1 X.2.1 hw.1 (941 + n) 0 (yGf_frames hn) rfl rfl d kk
theorem yfl_notes (X : yX own p m c cc nL s args D ca ad A) (hw : yW D ca A ad s H locs u) {x i : Int} (hx : 0 ≤ x ∧ x < 1000) (ri : inR i) (d : decode cc pc = .ok (.iaload, 1)) {P : Int → Prop} (h : bd i 5 (rd (u.2.1 52 (5 * x + i)) P)) (kk : ∀ v, inR v → P v → W p l e R s m args below meth c H locs 0 0 Q (F0 m (pc + 1) ls (.int (jI v) :: rest))) : W p l e R s m args below meth c H locs 0 0 Q (F0 m pc ls (.int (jI i) :: .ref (ad 8 x.toNat) :: rest)) := by
  obtain ⟨n, rfl⟩ := Int.eq_ofNat_of_zero_le hx.1
  have hn : n < 1000 := by omega
  have h1 := h.1
  have h2 := h.2.1
  refine va_iald X.1.1 X.1.2.1 X.2.1 hw.1 (1001 + n) 0 (yGf_notes hn) rfl (jI_in rfl h1 h2 ri) d ?_
  rw [jI_cl ri]
  obtain ⟨k, rfl⟩ := Int.eq_ofNat_of_zero_le h1
  have hk : k < 5 := by omega
  rw [show ((k : Int)).toNat = k from rfl, if_pos hk]
  exact kk _ (hw.2.2.2.1.2.1 52 (5 * (n : Int) + (k : Int))) (h.2.2 _ rfl (hw.2.2.2.1.2.1 52 (5 * (n : Int) + (k : Int))))
theorem yft_notes (X : yX own p m c cc nL s args D ca ad A) (hw : yW D ca A ad s H locs u) {x i v : Int} (hx : 0 ≤ x ∧ x < 1000) (ri : inR i) (hv : inR v) (d : decode cc pc = .ok (.iastore, 1)) {P : iST → Prop} (h : bd i 5 (sw (iA u 52 (5 * x + i) v) P)) (kk : ∀ (H : Heap) (locs : List Loc) (u : iST), yW D ca A ad s H locs u → P u → W p l e R s m args below meth c H locs 0 0 Q (F0 m (pc + 1) ls (rest))) : W p l e R s m args below meth c H locs 0 0 Q (F0 m pc ls (.int (jI v) :: .int (jI i) :: .ref (ad 8 x.toNat) :: rest)) := by
  obtain ⟨n, rfl⟩ := Int.eq_ofNat_of_zero_le hx.1
  have hn : n < 1000 := by omega
  have h1 := h.1
  have h2 := h.2.1
  refine va_iast X.1.1 X.1.2.1 X.2.1 hw.1 hw.2.1 hw.2.2.1 (1001 + n) 0 (yGf_notes hn) rfl (jI_in rfl h1 h2 ri) d (fun H locs hP hD hS => ?_)
  rw [jI_cl ri, yPf_notes hn h1 (by omega)] at hP hD
  exact kk H locs _ ⟨hP, hD, hS, yR_A hw.2.2.2.1 52 (5 * (n : Int) + i) hv (fun q => absurd q (by decide)) (fun q => absurd q (by decide)) (fun q => absurd q (by decide)), hw.2.2.2.2⟩ (h.2.2 _ rfl)
theorem yfn_notes (X : yX own p m c cc nL s args D ca ad A) (hw : yW D ca A ad s H locs u) {x : Int} (hx : 0 ≤ x ∧ x < 1000) (d : decode cc pc = .ok (.arraylength, 1)) (kk : W p l e R s m args below meth c H locs 0 0 Q (F0 m (pc + 1) ls (.int (jI 5) :: rest))) : W p l e R s m args below meth c H locs 0 0 Q (F0 m pc ls (.ref (ad 8 x.toNat) :: rest)) := by
  obtain ⟨n, rfl⟩ := Int.eq_ofNat_of_zero_le hx.1
  have hn : n < 1000 := by omega
  refine va_alen X.1.1 X.1.2.1 X.2.1 hw.1 (1001 + n) 0 (yGf_notes hn) rfl rfl d kk
theorem yfl_pframes (X : yX own p m c cc nL s args D ca ad A) (hw : yW D ca A ad s H locs u) {x i : Int} (hx : 0 ≤ x ∧ x < 40) (ri : inR i) (d : decode cc pc = .ok (.iaload, 1)) {P : Int → Prop} (h : bd i 4 (rd (u.2.1 53 (4 * x + i)) P)) (kk : ∀ v, inR v → P v → W p l e R s m args below meth c H locs 0 0 Q (F0 m (pc + 1) ls (.int (jI v) :: rest))) : W p l e R s m args below meth c H locs 0 0 Q (F0 m pc ls (.int (jI i) :: .ref (ad 9 x.toNat) :: rest)) := by
  obtain ⟨n, rfl⟩ := Int.eq_ofNat_of_zero_le hx.1
  have hn : n < 40 := by omega
  have h1 := h.1
  have h2 := h.2.1
  refine va_iald X.1.1 X.1.2.1 X.2.1 hw.1 (2001 + n) 0 (yGf_pframes hn) rfl (jI_in rfl h1 h2 ri) d ?_
  rw [jI_cl ri]
  obtain ⟨k, rfl⟩ := Int.eq_ofNat_of_zero_le h1
  have hk : k < 4 := by omega
  rw [show ((k : Int)).toNat = k from rfl, if_pos hk]
  exact kk _ (hw.2.2.2.1.2.1 53 (4 * (n : Int) + (k : Int))) (h.2.2 _ rfl (hw.2.2.2.1.2.1 53 (4 * (n : Int) + (k : Int))))
theorem yft_pframes (X : yX own p m c cc nL s args D ca ad A) (hw : yW D ca A ad s H locs u) {x i v : Int} (hx : 0 ≤ x ∧ x < 40) (ri : inR i) (hv : inR v) (d : decode cc pc = .ok (.iastore, 1)) {P : iST → Prop} (h : bd i 4 (sw (iA u 53 (4 * x + i) v) P)) (kk : ∀ (H : Heap) (locs : List Loc) (u : iST), yW D ca A ad s H locs u → P u → W p l e R s m args below meth c H locs 0 0 Q (F0 m (pc + 1) ls (rest))) : W p l e R s m args below meth c H locs 0 0 Q (F0 m pc ls (.int (jI v) :: .int (jI i) :: .ref (ad 9 x.toNat) :: rest)) := by
  obtain ⟨n, rfl⟩ := Int.eq_ofNat_of_zero_le hx.1
  have hn : n < 40 := by omega
  have h1 := h.1
  have h2 := h.2.1
  refine va_iast X.1.1 X.1.2.1 X.2.1 hw.1 hw.2.1 hw.2.2.1 (2001 + n) 0 (yGf_pframes hn) rfl (jI_in rfl h1 h2 ri) d (fun H locs hP hD hS => ?_)
  rw [jI_cl ri, yPf_pframes hn h1 (by omega)] at hP hD
  exact kk H locs _ ⟨hP, hD, hS, yR_A hw.2.2.2.1 53 (4 * (n : Int) + i) hv (fun q => absurd q (by decide)) (fun q => absurd q (by decide)) (fun q => absurd q (by decide)), hw.2.2.2.2⟩ (h.2.2 _ rfl)
theorem yfn_pframes (X : yX own p m c cc nL s args D ca ad A) (hw : yW D ca A ad s H locs u) {x : Int} (hx : 0 ≤ x ∧ x < 40) (d : decode cc pc = .ok (.arraylength, 1)) (kk : W p l e R s m args below meth c H locs 0 0 Q (F0 m (pc + 1) ls (.int (jI 4) :: rest))) : W p l e R s m args below meth c H locs 0 0 Q (F0 m pc ls (.ref (ad 9 x.toNat) :: rest)) := by
  obtain ⟨n, rfl⟩ := Int.eq_ofNat_of_zero_le hx.1
  have hn : n < 40 := by omega
  refine va_alen X.1.1 X.1.2.1 X.2.1 hw.1 (2001 + n) 0 (yGf_pframes hn) rfl rfl d kk
theorem yfl_letters (X : yX own p m c cc nL s args D ca ad A) (hw : yW D ca A ad s H locs u) {x i : Int} (hx : 0 ≤ x ∧ x < 3) (ri : inR i) (d : decode cc pc = .ok (.caload, 1)) {P : Int → Prop} (h : bd i (slenI x) (rh (u.2.1 55 (2000 * x + i)) P)) (kk : ∀ v, inC v → P v → W p l e R s m args below meth c H locs 0 0 Q (F0 m (pc + 1) ls (.int (jI v) :: rest))) : W p l e R s m args below meth c H locs 0 0 Q (F0 m pc ls (.int (jI i) :: .ref (ad 11 x.toNat) :: rest)) := by
  obtain ⟨n, rfl⟩ := Int.eq_ofNat_of_zero_le hx.1
  have hn : n < 3 := by omega
  rw [slen_I] at h
  have sl := slen_le n
  have h1 := h.1
  have h2 := h.2.1
  refine va_cald X.1.1 X.1.2.1 X.2.1 hw.1 (2044 + n) 2 (yGf_letters hn) rfl (jI_in rfl h1 h2 ri) d ?_
  rw [jI_cl ri]
  obtain ⟨k, rfl⟩ := Int.eq_ofNat_of_zero_le h1
  have hk : k < 2000 := by omega
  rw [show ((k : Int)).toNat = k from rfl, if_pos hk]
  exact kk _ (hw.2.2.2.1.2.2.2.2.2.1 55 (by decide) (2000 * (n : Int) + (k : Int))) (h.2.2 _ rfl (hw.2.2.2.1.2.2.2.2.2.1 55 (by decide) (2000 * (n : Int) + (k : Int))))
theorem yft_letters (X : yX own p m c cc nL s args D ca ad A) (hw : yW D ca A ad s H locs u) {x i v : Int} (hx : 0 ≤ x ∧ x < 3) (ri : inR i) (d : decode cc pc = .ok (.castore, 1)) {P : iST → Prop} (h : hc v (bd i (slenI x) (sw (iA u 55 (2000 * x + i) v) P))) (kk : ∀ (H : Heap) (locs : List Loc) (u : iST), yW D ca A ad s H locs u → P u → W p l e R s m args below meth c H locs 0 0 Q (F0 m (pc + 1) ls (rest))) : W p l e R s m args below meth c H locs 0 0 Q (F0 m pc ls (.int (jI v) :: .int (jI i) :: .ref (ad 11 x.toNat) :: rest)) := by
  obtain ⟨n, rfl⟩ := Int.eq_ofNat_of_zero_le hx.1
  have hn : n < 3 := by omega
  rw [slen_I] at h
  have sl := slen_le n
  have h1 := h.2.1
  have h2 := h.2.2.1
  refine va_cast X.1.1 X.1.2.1 X.2.1 hw.1 hw.2.1 hw.2.2.1 (2044 + n) 2 (yGf_letters hn) rfl (jI_in rfl h1 h2 ri) d (fun H locs hP hD hS => ?_)
  rw [inC_vp h.1, jI_cl ri, yPf_letters hn h1 (by omega)] at hP hD
  exact kk H locs _ ⟨hP, hD, hS, yR_A hw.2.2.2.1 55 (2000 * (n : Int) + i) (inC_in h.1) (fun q => absurd q (by decide)) (fun _ => h.1) (fun q => absurd q (by decide)), hw.2.2.2.2⟩ (h.2.2.2 _ rfl)
theorem yfn_letters (X : yX own p m c cc nL s args D ca ad A) (hw : yW D ca A ad s H locs u) {x : Int} (hx : 0 ≤ x ∧ x < 3) (d : decode cc pc = .ok (.arraylength, 1)) (kk : W p l e R s m args below meth c H locs 0 0 Q (F0 m (pc + 1) ls (.int (jI (slenI x)) :: rest))) : W p l e R s m args below meth c H locs 0 0 Q (F0 m pc ls (.ref (ad 11 x.toNat) :: rest)) := by
  obtain ⟨n, rfl⟩ := Int.eq_ofNat_of_zero_le hx.1
  have hn : n < 3 := by omega
  refine va_alen X.1.1 X.1.2.1 X.2.1 hw.1 (2044 + n) 2 (yGf_letters hn) rfl (by rw [slen_I]; exact (jI_nat _).symm) d kk
theorem yfl_srests (X : yX own p m c cc nL s args D ca ad A) (hw : yW D ca A ad s H locs u) {x i : Int} (hx : 0 ≤ x ∧ x < 3) (ri : inR i) (d : decode cc pc = .ok (.iaload, 1)) {P : Int → Prop} (h : bd i (slenI x) (rd (u.2.1 56 (2000 * x + i)) P)) (kk : ∀ v, inR v → P v → W p l e R s m args below meth c H locs 0 0 Q (F0 m (pc + 1) ls (.int (jI v) :: rest))) : W p l e R s m args below meth c H locs 0 0 Q (F0 m pc ls (.int (jI i) :: .ref (ad 12 x.toNat) :: rest)) := by
  obtain ⟨n, rfl⟩ := Int.eq_ofNat_of_zero_le hx.1
  have hn : n < 3 := by omega
  rw [slen_I] at h
  have sl := slen_le n
  have h1 := h.1
  have h2 := h.2.1
  refine va_iald X.1.1 X.1.2.1 X.2.1 hw.1 (2047 + n) 0 (yGf_srests hn) rfl (jI_in rfl h1 h2 ri) d ?_
  rw [jI_cl ri]
  obtain ⟨k, rfl⟩ := Int.eq_ofNat_of_zero_le h1
  have hk : k < 2000 := by omega
  rw [show ((k : Int)).toNat = k from rfl, if_pos hk]
  exact kk _ (hw.2.2.2.1.2.1 56 (2000 * (n : Int) + (k : Int))) (h.2.2 _ rfl (hw.2.2.2.1.2.1 56 (2000 * (n : Int) + (k : Int))))
theorem yft_srests (X : yX own p m c cc nL s args D ca ad A) (hw : yW D ca A ad s H locs u) {x i v : Int} (hx : 0 ≤ x ∧ x < 3) (ri : inR i) (hv : inR v) (d : decode cc pc = .ok (.iastore, 1)) {P : iST → Prop} (h : bd i (slenI x) (sw (iA u 56 (2000 * x + i) v) P)) (kk : ∀ (H : Heap) (locs : List Loc) (u : iST), yW D ca A ad s H locs u → P u → W p l e R s m args below meth c H locs 0 0 Q (F0 m (pc + 1) ls (rest))) : W p l e R s m args below meth c H locs 0 0 Q (F0 m pc ls (.int (jI v) :: .int (jI i) :: .ref (ad 12 x.toNat) :: rest)) := by
  obtain ⟨n, rfl⟩ := Int.eq_ofNat_of_zero_le hx.1
  have hn : n < 3 := by omega
  rw [slen_I] at h
  have sl := slen_le n
  have h1 := h.1
  have h2 := h.2.1
  refine va_iast X.1.1 X.1.2.1 X.2.1 hw.1 hw.2.1 hw.2.2.1 (2047 + n) 0 (yGf_srests hn) rfl (jI_in rfl h1 h2 ri) d (fun H locs hP hD hS => ?_)
  rw [jI_cl ri, yPf_srests hn h1 (by omega)] at hP hD
  exact kk H locs _ ⟨hP, hD, hS, yR_A hw.2.2.2.1 56 (2000 * (n : Int) + i) hv (fun q => absurd q (by decide)) (fun q => absurd q (by decide)) (fun q => absurd q (by decide)), hw.2.2.2.2⟩ (h.2.2 _ rfl)
theorem yfn_srests (X : yX own p m c cc nL s args D ca ad A) (hw : yW D ca A ad s H locs u) {x : Int} (hx : 0 ≤ x ∧ x < 3) (d : decode cc pc = .ok (.arraylength, 1)) (kk : W p l e R s m args below meth c H locs 0 0 Q (F0 m (pc + 1) ls (.int (jI (slenI x)) :: rest))) : W p l e R s m args below meth c H locs 0 0 Q (F0 m pc ls (.ref (ad 12 x.toNat) :: rest)) := by
  obtain ⟨n, rfl⟩ := Int.eq_ofNat_of_zero_le hx.1
  have hn : n < 3 := by omega
  refine va_alen X.1.1 X.1.2.1 X.2.1 hw.1 (2047 + n) 0 (yGf_srests hn) rfl (by rw [slen_I]; exact (jI_nat _).symm) d kk
theorem yx_0 (X : yX own p m c cc nL s args D ca ad A) (hw : yW D ca A ad s H locs u) {i : Int} (ri : inR i) (d : decode cc pc = .ok (.aaload, 1)) {P : Prop} (h : bd i 60 P) (kk : P → W p l e R s m args below meth c H locs 0 0 Q (F0 m (pc + 1) ls (.ref (ad 6 i.toNat) :: rest))) : W p l e R s m args below meth c H locs 0 0 Q (F0 m pc ls (.int (jI i) :: .ref (ad 3 0) :: rest)) := by
  refine va_aldr X.1.1 X.1.2.1 X.2.1 hw.1 57 4 yGx_0 rfl (jI_in rfl h.1 h.2.1 ri) d ?_
  rw [jI_cl ri]
  exact kk h.2.2
theorem yxn_0 (X : yX own p m c cc nL s args D ca ad A) (hw : yW D ca A ad s H locs u) (d : decode cc pc = .ok (.arraylength, 1)) (kk : W p l e R s m args below meth c H locs 0 0 Q (F0 m (pc + 1) ls (.int (jI 60) :: rest))) : W p l e R s m args below meth c H locs 0 0 Q (F0 m pc ls (.ref (ad 3 0) :: rest)) :=
  va_alen X.1.1 X.1.2.1 X.2.1 hw.1 57 4 yGx_0 rfl rfl d kk
theorem yx_1 (X : yX own p m c cc nL s args D ca ad A) (hw : yW D ca A ad s H locs u) {i : Int} (ri : inR i) (d : decode cc pc = .ok (.aaload, 1)) {P : Prop} (h : bd i 60 P) (kk : P → W p l e R s m args below meth c H locs 0 0 Q (F0 m (pc + 1) ls (.ref (ad 7 i.toNat) :: rest))) : W p l e R s m args below meth c H locs 0 0 Q (F0 m pc ls (.int (jI i) :: .ref (ad 3 1) :: rest)) := by
  refine va_aldr X.1.1 X.1.2.1 X.2.1 hw.1 58 4 yGx_1 rfl (jI_in rfl h.1 h.2.1 ri) d ?_
  rw [jI_cl ri]
  exact kk h.2.2
theorem yxn_1 (X : yX own p m c cc nL s args D ca ad A) (hw : yW D ca A ad s H locs u) (d : decode cc pc = .ok (.arraylength, 1)) (kk : W p l e R s m args below meth c H locs 0 0 Q (F0 m (pc + 1) ls (.int (jI 60) :: rest))) : W p l e R s m args below meth c H locs 0 0 Q (F0 m pc ls (.ref (ad 3 1) :: rest)) :=
  va_alen X.1.1 X.1.2.1 X.2.1 hw.1 58 4 yGx_1 rfl rfl d kk
theorem yx_2 (X : yX own p m c cc nL s args D ca ad A) (hw : yW D ca A ad s H locs u) {i : Int} (ri : inR i) (d : decode cc pc = .ok (.aaload, 1)) {P : Prop} (h : bd i 1000 P) (kk : P → W p l e R s m args below meth c H locs 0 0 Q (F0 m (pc + 1) ls (.ref (ad 8 i.toNat) :: rest))) : W p l e R s m args below meth c H locs 0 0 Q (F0 m pc ls (.int (jI i) :: .ref (ad 3 2) :: rest)) := by
  refine va_aldr X.1.1 X.1.2.1 X.2.1 hw.1 59 4 yGx_2 rfl (jI_in rfl h.1 h.2.1 ri) d ?_
  rw [jI_cl ri]
  exact kk h.2.2
theorem yxn_2 (X : yX own p m c cc nL s args D ca ad A) (hw : yW D ca A ad s H locs u) (d : decode cc pc = .ok (.arraylength, 1)) (kk : W p l e R s m args below meth c H locs 0 0 Q (F0 m (pc + 1) ls (.int (jI 1000) :: rest))) : W p l e R s m args below meth c H locs 0 0 Q (F0 m pc ls (.ref (ad 3 2) :: rest)) :=
  va_alen X.1.1 X.1.2.1 X.2.1 hw.1 59 4 yGx_2 rfl rfl d kk
theorem yx_3 (X : yX own p m c cc nL s args D ca ad A) (hw : yW D ca A ad s H locs u) {i : Int} (ri : inR i) (d : decode cc pc = .ok (.aaload, 1)) {P : Prop} (h : bd i 40 P) (kk : P → W p l e R s m args below meth c H locs 0 0 Q (F0 m (pc + 1) ls (.ref (ad 9 i.toNat) :: rest))) : W p l e R s m args below meth c H locs 0 0 Q (F0 m pc ls (.int (jI i) :: .ref (ad 3 3) :: rest)) := by
  refine va_aldr X.1.1 X.1.2.1 X.2.1 hw.1 60 4 yGx_3 rfl (jI_in rfl h.1 h.2.1 ri) d ?_
  rw [jI_cl ri]
  exact kk h.2.2
theorem yxn_3 (X : yX own p m c cc nL s args D ca ad A) (hw : yW D ca A ad s H locs u) (d : decode cc pc = .ok (.arraylength, 1)) (kk : W p l e R s m args below meth c H locs 0 0 Q (F0 m (pc + 1) ls (.int (jI 40) :: rest))) : W p l e R s m args below meth c H locs 0 0 Q (F0 m pc ls (.ref (ad 3 3) :: rest)) :=
  va_alen X.1.1 X.1.2.1 X.2.1 hw.1 60 4 yGx_3 rfl rfl d kk
theorem yx_4 (X : yX own p m c cc nL s args D ca ad A) (hw : yW D ca A ad s H locs u) {i : Int} (ri : inR i) (d : decode cc pc = .ok (.aaload, 1)) {P : Prop} (h : bd i 120 P) (kk : P → W p l e R s m args below meth c H locs 0 0 Q (F0 m (pc + 1) ls (.ref (ad 4 i.toNat) :: rest))) : W p l e R s m args below meth c H locs 0 0 Q (F0 m pc ls (.int (jI i) :: .ref (ad 3 4) :: rest)) := by
  refine va_aldq X.1.1 X.1.2.1 X.2.1 hw.1 61 5 yGx_4 rfl (jI_in rfl h.1 h.2.1 ri) d ?_
  rw [jI_cl ri]
  exact kk h.2.2
theorem yxn_4 (X : yX own p m c cc nL s args D ca ad A) (hw : yW D ca A ad s H locs u) (d : decode cc pc = .ok (.arraylength, 1)) (kk : W p l e R s m args below meth c H locs 0 0 Q (F0 m (pc + 1) ls (.int (jI 120) :: rest))) : W p l e R s m args below meth c H locs 0 0 Q (F0 m pc ls (.ref (ad 3 4) :: rest)) :=
  va_alen X.1.1 X.1.2.1 X.2.1 hw.1 61 5 yGx_4 rfl rfl d kk
theorem yx_5 (X : yX own p m c cc nL s args D ca ad A) (hw : yW D ca A ad s H locs u) {i : Int} (ri : inR i) (d : decode cc pc = .ok (.aaload, 1)) {P : Prop} (h : bd i 10 P) (kk : P → W p l e R s m args below meth c H locs 0 0 Q (F0 m (pc + 1) ls (.ref (ad 4 (120 + i).toNat) :: rest))) : W p l e R s m args below meth c H locs 0 0 Q (F0 m pc ls (.int (jI i) :: .ref (ad 3 5) :: rest)) := by
  refine va_aldq X.1.1 X.1.2.1 X.2.1 hw.1 62 5 yGx_5 rfl (jI_in rfl h.1 h.2.1 ri) d ?_
  rw [jI_cl ri]
  rw [show (120 + i).toNat = 120 + i.toNat from by have := h.1; omega] at kk
  exact kk h.2.2
theorem yxn_5 (X : yX own p m c cc nL s args D ca ad A) (hw : yW D ca A ad s H locs u) (d : decode cc pc = .ok (.arraylength, 1)) (kk : W p l e R s m args below meth c H locs 0 0 Q (F0 m (pc + 1) ls (.int (jI 10) :: rest))) : W p l e R s m args below meth c H locs 0 0 Q (F0 m pc ls (.ref (ad 3 5) :: rest)) :=
  va_alen X.1.1 X.1.2.1 X.2.1 hw.1 62 5 yGx_5 rfl rfl d kk
theorem yx_6 (X : yX own p m c cc nL s args D ca ad A) (hw : yW D ca A ad s H locs u) {i : Int} (ri : inR i) (d : decode cc pc = .ok (.aaload, 1)) {P : Prop} (h : bd i 20 P) (kk : P → W p l e R s m args below meth c H locs 0 0 Q (F0 m (pc + 1) ls (.ref (ad 4 (130 + i).toNat) :: rest))) : W p l e R s m args below meth c H locs 0 0 Q (F0 m pc ls (.int (jI i) :: .ref (ad 3 6) :: rest)) := by
  refine va_aldq X.1.1 X.1.2.1 X.2.1 hw.1 63 5 yGx_6 rfl (jI_in rfl h.1 h.2.1 ri) d ?_
  rw [jI_cl ri]
  rw [show (130 + i).toNat = 130 + i.toNat from by have := h.1; omega] at kk
  exact kk h.2.2
theorem yxn_6 (X : yX own p m c cc nL s args D ca ad A) (hw : yW D ca A ad s H locs u) (d : decode cc pc = .ok (.arraylength, 1)) (kk : W p l e R s m args below meth c H locs 0 0 Q (F0 m (pc + 1) ls (.int (jI 20) :: rest))) : W p l e R s m args below meth c H locs 0 0 Q (F0 m pc ls (.ref (ad 3 6) :: rest)) :=
  va_alen X.1.1 X.1.2.1 X.2.1 hw.1 63 5 yGx_6 rfl rfl d kk
theorem yx_7 (X : yX own p m c cc nL s args D ca ad A) (hw : yW D ca A ad s H locs u) {i : Int} (ri : inR i) (d : decode cc pc = .ok (.aaload, 1)) {P : Int → Prop} (h : bd i 256 (rc (u.2.1 57 i) P)) (kk : ∀ v, (0 ≤ v ∧ v < 408) → P v → W p l e R s m args below meth c H locs 0 0 Q (F0 m (pc + 1) ls (.ref (ad 4 v.toNat) :: rest))) : W p l e R s m args below meth c H locs 0 0 Q (F0 m pc ls (.int (jI i) :: .ref (ad 3 7) :: rest)) := by
  refine va_aldq X.1.1 X.1.2.1 X.2.1 hw.1 64 5 yGx_7 rfl (jI_in rfl h.1 h.2.1 ri) d ?_
  rw [jI_cl ri, Int.toNat_of_nonneg h.1]
  exact kk _ (hw.2.2.2.1.2.2.2.2.2.2 i) (h.2.2 _ rfl (hw.2.2.2.1.2.2.2.2.2.2 i))
theorem yxt_7 (X : yX own p m c cc nL s args D ca ad A) (hw : yW D ca A ad s H locs u) {i v : Int} (ri : inR i) (hv : 0 ≤ v ∧ v < 408) (d : decode cc pc = .ok (.aastore, 1)) {P : iST → Prop} (h : bd i 256 (sw (iA u 57 i v) P)) (kk : ∀ (H : Heap) (locs : List Loc) (u : iST), yW D ca A ad s H locs u → P u → W p l e R s m args below meth c H locs 0 0 Q (F0 m (pc + 1) ls (rest))) : W p l e R s m args below meth c H locs 0 0 Q (F0 m pc ls (.ref (ad 4 v.toNat) :: .int (jI i) :: .ref (ad 3 7) :: rest)) := by
  have hn : v.toNat < 408 := by omega
  refine va_astq X.1.1 X.1.2.1 X.2.1 hw.1 hw.2.1 hw.2.2.1 64 5 (65 + v.toNat) 1 (r := (RX1, TX1, 4)) yGx_7 rfl (yGf_clause hn) rfl (jI_in rfl h.1 h.2.1 ri) d (fun H locs hP hD hS => ?_)
  rw [jI_cl ri, yPx h.1] at hP hD
  exact kk H locs _ ⟨hP, hD, hS, yR_A hw.2.2.2.1 57 i (inF_in hv (by decide)) (fun q => absurd q (by decide)) (fun q => absurd q (by decide)) (fun _ => hv), hw.2.2.2.2⟩ (h.2.2 _ rfl)
theorem yxn_7 (X : yX own p m c cc nL s args D ca ad A) (hw : yW D ca A ad s H locs u) (d : decode cc pc = .ok (.arraylength, 1)) (kk : W p l e R s m args below meth c H locs 0 0 Q (F0 m (pc + 1) ls (.int (jI 256) :: rest))) : W p l e R s m args below meth c H locs 0 0 Q (F0 m pc ls (.ref (ad 3 7) :: rest)) :=
  va_alen X.1.1 X.1.2.1 X.2.1 hw.1 64 5 yGx_7 rfl rfl d kk
theorem ys_0_79 (X : yX RX0 p m c cc nL s args D ca ad A) (hw : yW D ca A ad s H locs u) (d : decode cc pc = .ok (.getstatic 79, 3)) (kk : W p l e R s m args below meth c H locs 0 0 Q (F0 m (pc + 3) ls (.ref (ad 13 0) :: rest))) : W p l e R s m args below meth c H locs 0 0 Q (F0 m pc ls (rest)) :=
  va_gets X.1.1 X.1.2.1 X.2.2.2.1.1 hw.2.2.1 X.1.2.2.2.1 (X.1.2.2.2.2 _ yL_0_79) (fun x h9 => h9) d kk
theorem ys_3_96 (X : yX RX3 p m c cc nL s args D ca ad A) (hw : yW D ca A ad s H locs u) (d : decode cc pc = .ok (.getstatic 96, 3)) (kk : W p l e R s m args below meth c H locs 0 0 Q (F0 m (pc + 3) ls (.ref (ad 13 1) :: rest))) : W p l e R s m args below meth c H locs 0 0 Q (F0 m pc ls (rest)) :=
  va_gets X.1.1 X.1.2.1 X.2.2.2.2.1.1 hw.2.2.1 X.1.2.2.2.1 (X.1.2.2.2.2 _ yL_3_96) (fun x h9 => h9) d kk
theorem ys_3_100 (X : yX RX3 p m c cc nL s args D ca ad A) (hw : yW D ca A ad s H locs u) (d : decode cc pc = .ok (.getstatic 100, 3)) (kk : W p l e R s m args below meth c H locs 0 0 Q (F0 m (pc + 3) ls (.ref (ad 13 4) :: rest))) : W p l e R s m args below meth c H locs 0 0 Q (F0 m pc ls (rest)) :=
  va_gets X.1.1 X.1.2.1 X.2.2.2.2.2.2.2.1.1 hw.2.2.1 X.1.2.2.2.1 (X.1.2.2.2.2 _ yL_3_100) (fun x h9 => h9) d kk
theorem ys_3_103 (X : yX RX3 p m c cc nL s args D ca ad A) (hw : yW D ca A ad s H locs u) (d : decode cc pc = .ok (.getstatic 103, 3)) (kk : W p l e R s m args below meth c H locs 0 0 Q (F0 m (pc + 3) ls (.ref (ad 13 3) :: rest))) : W p l e R s m args below meth c H locs 0 0 Q (F0 m pc ls (rest)) :=
  va_gets X.1.1 X.1.2.1 X.2.2.2.2.2.2.1.1 hw.2.2.1 X.1.2.2.2.1 (X.1.2.2.2.2 _ yL_3_103) (fun x h9 => h9) d kk
theorem ys_3_106 (X : yX RX3 p m c cc nL s args D ca ad A) (hw : yW D ca A ad s H locs u) (d : decode cc pc = .ok (.getstatic 106, 3)) (kk : W p l e R s m args below meth c H locs 0 0 Q (F0 m (pc + 3) ls (.ref (ad 13 2) :: rest))) : W p l e R s m args below meth c H locs 0 0 Q (F0 m pc ls (rest)) :=
  va_gets X.1.1 X.1.2.1 X.2.2.2.2.2.1.1 hw.2.2.1 X.1.2.2.2.1 (X.1.2.2.2.2 _ yL_3_106) (fun x h9 => h9) d kk
theorem yst_0 (X : yX own p m c cc nL s args D ca ad A) (hw : yW D ca A ad s H locs u) {i : Int} (ri : inR i) (d : decode cc pc = .ok (.iaload, 1)) {P : Int → Prop} (h : bd i 14 (rd (yT_BASE_ARITIES.getD i.toNat 0) P)) (kk : ∀ v, inR v → P v → W p l e R s m args below meth c H locs 0 0 Q (F0 m (pc + 1) ls (.int (jI v) :: rest))) : W p l e R s m args below meth c H locs 0 0 Q (F0 m pc ls (.int (jI i) :: .ref (ad 13 0) :: rest)) := by
  have hr : inR (yT_BASE_ARITIES.getD i.toNat 0) := by
    have h1 := h.1
    have h2 := h.2.1
    have hn : i.toNat < 14 := by omega
    exact (by decide : ∀ n, n < 14 → inR (yT_BASE_ARITIES.getD n 0)) _ hn
  refine va_ti X.1.1 X.1.2.1 X.2.2.2.1.2 hw.2.2.1 (jI_in rfl h.1 h.2.1 ri) (by rw [jI_cl ri]) d ?_
  exact kk _ hr (h.2.2 _ rfl hr)
theorem yst_1 (X : yX own p m c cc nL s args D ca ad A) (hw : yW D ca A ad s H locs u) {i : Int} (ri : inR i) (d : decode cc pc = .ok (.iaload, 1)) {P : Int → Prop} (h : bd i 16 (rd (yT_LENGTHS.getD i.toNat 0) P)) (kk : ∀ v, inR v → P v → W p l e R s m args below meth c H locs 0 0 Q (F0 m (pc + 1) ls (.int (jI v) :: rest))) : W p l e R s m args below meth c H locs 0 0 Q (F0 m pc ls (.int (jI i) :: .ref (ad 13 1) :: rest)) := by
  have hr : inR (yT_LENGTHS.getD i.toNat 0) := by
    have h1 := h.1
    have h2 := h.2.1
    have hn : i.toNat < 16 := by omega
    exact (by decide : ∀ n, n < 16 → inR (yT_LENGTHS.getD n 0)) _ hn
  refine va_ti X.1.1 X.1.2.1 X.2.2.2.2.1.2 hw.2.2.1 (jI_in rfl h.1 h.2.1 ri) (by rw [jI_cl ri]) d ?_
  exact kk _ hr (h.2.2 _ rfl hr)
theorem yst_2 (X : yX own p m c cc nL s args D ca ad A) (hw : yW D ca A ad s H locs u) {i : Int} (ri : inR i) (d : decode cc pc = .ok (.iaload, 1)) {P : Int → Prop} (h : bd i 16 (rd (yT_TERM_COUNTS.getD i.toNat 0) P)) (kk : ∀ v, inR v → P v → W p l e R s m args below meth c H locs 0 0 Q (F0 m (pc + 1) ls (.int (jI v) :: rest))) : W p l e R s m args below meth c H locs 0 0 Q (F0 m pc ls (.int (jI i) :: .ref (ad 13 2) :: rest)) := by
  have hr : inR (yT_TERM_COUNTS.getD i.toNat 0) := by
    have h1 := h.1
    have h2 := h.2.1
    have hn : i.toNat < 16 := by omega
    exact (by decide : ∀ n, n < 16 → inR (yT_TERM_COUNTS.getD n 0)) _ hn
  refine va_ti X.1.1 X.1.2.1 X.2.2.2.2.2.1.2 hw.2.2.1 (jI_in rfl h.1 h.2.1 ri) (by rw [jI_cl ri]) d ?_
  exact kk _ hr (h.2.2 _ rfl hr)
theorem yst_3 (X : yX own p m c cc nL s args D ca ad A) (hw : yW D ca A ad s H locs u) {i : Int} (ri : inR i) (d : decode cc pc = .ok (.iaload, 1)) {P : Int → Prop} (h : bd i 16 (rd (yT_FIRST_PARTS.getD i.toNat 0) P)) (kk : ∀ v, inR v → P v → W p l e R s m args below meth c H locs 0 0 Q (F0 m (pc + 1) ls (.int (jI v) :: rest))) : W p l e R s m args below meth c H locs 0 0 Q (F0 m pc ls (.int (jI i) :: .ref (ad 13 3) :: rest)) := by
  have hr : inR (yT_FIRST_PARTS.getD i.toNat 0) := by
    have h1 := h.1
    have h2 := h.2.1
    have hn : i.toNat < 16 := by omega
    exact (by decide : ∀ n, n < 16 → inR (yT_FIRST_PARTS.getD n 0)) _ hn
  refine va_ti X.1.1 X.1.2.1 X.2.2.2.2.2.2.1.2 hw.2.2.1 (jI_in rfl h.1 h.2.1 ri) (by rw [jI_cl ri]) d ?_
  exact kk _ hr (h.2.2 _ rfl hr)
theorem yst_4 (X : yX own p m c cc nL s args D ca ad A) (hw : yW D ca A ad s H locs u) {i : Int} (ri : inR i) (d : decode cc pc = .ok (.iaload, 1)) {P : Int → Prop} (h : bd i 16 (rd (yT_PART_COUNTS.getD i.toNat 0) P)) (kk : ∀ v, inR v → P v → W p l e R s m args below meth c H locs 0 0 Q (F0 m (pc + 1) ls (.int (jI v) :: rest))) : W p l e R s m args below meth c H locs 0 0 Q (F0 m pc ls (.int (jI i) :: .ref (ad 13 4) :: rest)) := by
  have hr : inR (yT_PART_COUNTS.getD i.toNat 0) := by
    have h1 := h.1
    have h2 := h.2.1
    have hn : i.toNat < 16 := by omega
    exact (by decide : ∀ n, n < 16 → inR (yT_PART_COUNTS.getD n 0)) _ hn
  refine va_ti X.1.1 X.1.2.1 X.2.2.2.2.2.2.2.1.2 hw.2.2.1 (jI_in rfl h.1 h.2.1 ri) (by rw [jI_cl ri]) d ?_
  exact kk _ hr (h.2.2 _ rfl hr)
theorem yld (idx : Nat) {v : Int} (hL : Cond.constant own idx (jI v) ∈ wsN) (X : yX own p m c cc nL s args D ca ad A) (d : decode cc pc = .ok (.ldc idx, 2)) (kk : W p l e R s m args below meth c H locs 0 0 Q (F0 m (pc + 2) ls (.int (jI v) :: rest))) : W p l e R s m args below meth c H locs 0 0 Q (F0 m pc ls (rest)) := lv_ldc X.1.1 X.1.2.1 X.1.2.2.2.1 (X.1.2.2.2.2 _ hL) d kk
theorem yld2 (idx : Nat) {v : Int} (hL : Cond.constantLong own idx (jL v) ∈ wsN) (X : yX own p m c cc nL s args D ca ad A) (d : decode cc pc = .ok (.ldc2_w idx, 3)) (kk : W p l e R s m args below meth c H locs 0 0 Q (F0 m (pc + 3) ls (.long (jL v) :: rest))) : W p l e R s m args below meth c H locs 0 0 Q (F0 m pc ls (rest)) := lv_ldc2 X.1.1 X.1.2.1 X.1.2.2.2.1 (X.1.2.2.2.2 _ hL) d kk
theorem yMmax (idx : Nat) {a b : Int} (ra : inR a) (rb : inR b) (hL : Cond.methodLink own idx Lib.Math.max.name ∈ wsN) (X : yX own p m c cc nL s args D ca ad A) (hls : ls.size = nL) (hRf : 1 ≤ R.frames) (hRl : (rest.map fun v => v.category).sum + 13 ≤ R.locals) (d : decode cc pc = .ok (.invokestatic idx, 3)) {P : Int → Prop} (h : rd (if a < b then b else a) P) (kk : ∀ v, inR v → P v → W p l e R s m args below meth c H locs 0 0 Q (F0 m (pc + 3) ls (.int (jI v) :: rest))) : W p l e R s m args below meth c H locs 0 0 Q (F0 m pc ls (.int (jI b) :: .int (jI a) :: rest)) := by
  have hr : inR (if a < b then b else a) := by split <;> assumption
  refine va_mmax X.1.1 X.1.2.1 (by rw [X.1.2.2.1]; exact hls.symm) X.1.2.2.2.1 (X.1.2.2.2.2 _ hL) (X.1.2.2.2.2 _ yJ_8) (X.1.2.2.2.2 _ (ysI_in (List.mem_of_getElem? (i := 12) rfl))) (X.1.2.2.2.2 _ yJ_9) hRf hRl (Nat.zero_le _) (Nat.zero_le _) d ?_
  have q := kk _ hr (h _ rfl hr)
  have e : (if jI a < jI b then jI b else jI a) = jI (if a < b then b else a) := by
    by_cases z : a < b
    · rw [if_pos z, if_pos ((jI_lt ra rb).mpr z)]
    · rw [if_neg z, if_neg (fun w => z ((jI_lt ra rb).mp w))]
  rw [e]
  exact q
theorem yMmin (idx : Nat) {a b : Int} (ra : inR a) (rb : inR b) (hL : Cond.methodLink own idx Lib.Math.min.name ∈ wsN) (X : yX own p m c cc nL s args D ca ad A) (hls : ls.size = nL) (hRf : 1 ≤ R.frames) (hRl : (rest.map fun v => v.category).sum + 13 ≤ R.locals) (d : decode cc pc = .ok (.invokestatic idx, 3)) {P : Int → Prop} (h : rd (if b < a then b else a) P) (kk : ∀ v, inR v → P v → W p l e R s m args below meth c H locs 0 0 Q (F0 m (pc + 3) ls (.int (jI v) :: rest))) : W p l e R s m args below meth c H locs 0 0 Q (F0 m pc ls (.int (jI b) :: .int (jI a) :: rest)) := by
  have hr : inR (if b < a then b else a) := by split <;> assumption
  refine va_mmin X.1.1 X.1.2.1 (by rw [X.1.2.2.1]; exact hls.symm) X.1.2.2.2.1 (X.1.2.2.2.2 _ hL) (X.1.2.2.2.2 _ yJ_10) (X.1.2.2.2.2 _ (ysI_in (List.mem_of_getElem? (i := 12) rfl))) (X.1.2.2.2.2 _ yJ_11) hRf hRl (Nat.zero_le _) (Nat.zero_le _) d ?_
  have q := kk _ hr (h _ rfl hr)
  have e : (if jI b < jI a then jI b else jI a) = jI (if b < a then b else a) := by
    by_cases z : b < a
    · rw [if_pos z, if_pos ((jI_lt rb ra).mpr z)]
    · rw [if_neg z, if_neg (fun w => z ((jI_lt rb ra).mp w))]
  rw [e]
  exact q
end
