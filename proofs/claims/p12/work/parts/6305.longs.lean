/-! longs that wrap; copies of rows -/
def wladd (a b : Int) : Int := (jL a + jL b).toInt
def wlsub (a b : Int) : Int := (jL a - jL b).toInt
def wlmul (a b : Int) : Int := (jL a * jL b).toInt
def wland (a b : Int) : Int := (jL a &&& jL b).toInt
def wlor (a b : Int) : Int := (jL a ||| jL b).toInt
def wlshl (a b : Int) : Int := (jL a <<< ((jI b).toInt64 &&& 63)).toInt
def wlushr (a b : Int) : Int := ((jL a).toUInt64 >>> ((jI b).toInt64.toUInt64 &&& Int64.toUInt64 63)).toInt64.toInt
def wi2c (a : Int) : Int := ((jI a).toUInt32 % 65536).toInt32.toInt
def iCp (u : iST) (r r0 : Nat) (a b n : Int) : iST := (u.1, fun j => if j = r then (fun i => if a ≤ i ∧ i < a + n then u.2.1 r0 (b + (i - a)) else u.2.1 r i) else u.2.1 j, u.2.2)
def iRw (u : iST) (r : Nat) (f : Int → Int) : iST := (u.1, fun j => if j = r then f else u.2.1 j, u.2.2)
section
variable {p : Program} {l : Launch} {e : Env} {R : Room} {s : State} {m : MethodId} {args : Array Value} {below : List Frame} {meth : Method} {c : Code} {H : Heap} {locs : List Loc} {Q : State → Prop}
variable {cc : ByteArray} {pc nL : Nat} {ls : Array Slot} {rest : List Value} {D : va_G} {ca : Nat → ClassId} {A : Nat → Prop} {ad : Nat → Nat → Nat} {u : iST} {own : String}
theorem k_wladd (hx : p.tables.exec = Jvm.exec) (hb : c.code = cc) {a b : Int} (d : decode cc pc = .ok (.ladd, 1)) {P : Int → Prop} (h : rl (wladd a b) P) (kk : ∀ v, inL v → P v → W p l e R s m args below meth c H locs 0 0 Q (F0 m (pc + 1) ls (.long (jL v) :: rest))) : W p l e R s m args below meth c H locs 0 0 Q (F0 m pc ls (.long (jL b) :: .long (jL a) :: rest)) := lv_ladd hx hb d (k_wl fun v ev hv => kk v hv (h v ev hv))
theorem k_wlsub (hx : p.tables.exec = Jvm.exec) (hb : c.code = cc) {a b : Int} (d : decode cc pc = .ok (.lsub, 1)) {P : Int → Prop} (h : rl (wlsub a b) P) (kk : ∀ v, inL v → P v → W p l e R s m args below meth c H locs 0 0 Q (F0 m (pc + 1) ls (.long (jL v) :: rest))) : W p l e R s m args below meth c H locs 0 0 Q (F0 m pc ls (.long (jL b) :: .long (jL a) :: rest)) := lv_lsub hx hb d (k_wl fun v ev hv => kk v hv (h v ev hv))
theorem k_wlmul (hx : p.tables.exec = Jvm.exec) (hb : c.code = cc) {a b : Int} (d : decode cc pc = .ok (.lmul, 1)) {P : Int → Prop} (h : rl (wlmul a b) P) (kk : ∀ v, inL v → P v → W p l e R s m args below meth c H locs 0 0 Q (F0 m (pc + 1) ls (.long (jL v) :: rest))) : W p l e R s m args below meth c H locs 0 0 Q (F0 m pc ls (.long (jL b) :: .long (jL a) :: rest)) := lv_lmul hx hb d (k_wl fun v ev hv => kk v hv (h v ev hv))
theorem k_wland (hx : p.tables.exec = Jvm.exec) (hb : c.code = cc) {a b : Int} (d : decode cc pc = .ok (.land, 1)) {P : Int → Prop} (h : rl (wland a b) P) (kk : ∀ v, inL v → P v → W p l e R s m args below meth c H locs 0 0 Q (F0 m (pc + 1) ls (.long (jL v) :: rest))) : W p l e R s m args below meth c H locs 0 0 Q (F0 m pc ls (.long (jL b) :: .long (jL a) :: rest)) := lv_land hx hb d (k_wl fun v ev hv => kk v hv (h v ev hv))
theorem k_wlor (hx : p.tables.exec = Jvm.exec) (hb : c.code = cc) {a b : Int} (d : decode cc pc = .ok (.lor, 1)) {P : Int → Prop} (h : rl (wlor a b) P) (kk : ∀ v, inL v → P v → W p l e R s m args below meth c H locs 0 0 Q (F0 m (pc + 1) ls (.long (jL v) :: rest))) : W p l e R s m args below meth c H locs 0 0 Q (F0 m pc ls (.long (jL b) :: .long (jL a) :: rest)) := lv_lor hx hb d (k_wl fun v ev hv => kk v hv (h v ev hv))
theorem k_wlshl (hx : p.tables.exec = Jvm.exec) (hb : c.code = cc) {a b : Int} (d : decode cc pc = .ok (.lshl, 1)) {P : Int → Prop} (h : rl (wlshl a b) P) (kk : ∀ v, inL v → P v → W p l e R s m args below meth c H locs 0 0 Q (F0 m (pc + 1) ls (.long (jL v) :: rest))) : W p l e R s m args below meth c H locs 0 0 Q (F0 m pc ls (.int (jI b) :: .long (jL a) :: rest)) := lv_lshl hx hb d rfl (k_wl fun v ev hv => kk v hv (h v ev hv))
theorem k_wlushr (hx : p.tables.exec = Jvm.exec) (hb : c.code = cc) {a b : Int} (d : decode cc pc = .ok (.lushr, 1)) {P : Int → Prop} (h : rl (wlushr a b) P) (kk : ∀ v, inL v → P v → W p l e R s m args below meth c H locs 0 0 Q (F0 m (pc + 1) ls (.long (jL v) :: rest))) : W p l e R s m args below meth c H locs 0 0 Q (F0 m pc ls (.int (jI b) :: .long (jL a) :: rest)) := lv_lushr hx hb d rfl (k_wl fun v ev hv => kk v hv (h v ev hv))
theorem k_wi2c (hx : p.tables.exec = Jvm.exec) (hb : c.code = cc) {a : Int} (d : decode cc pc = .ok (.i2c, 1)) {P : Int → Prop} (h : rd (wi2c a) P) (kk : ∀ v, inR v → P v → W p l e R s m args below meth c H locs 0 0 Q (F0 m (pc + 1) ls (.int (jI v) :: rest))) : W p l e R s m args below meth c H locs 0 0 Q (F0 m pc ls (.int (jI a) :: rest)) := lv_i2c hx hb d rfl (k_w fun v ev hv => kk v hv (h v ev hv))
end
theorem cp_f {u : iST} {r r0 S S0 n x y : Nat} (hn : n ≤ S) (hn0 : n ≤ S0) : va_cpy (fun k => jI (if k < S0 then u.2.1 r0 ((S0 : Int) * (x : Int) + (k : Int)) else 0)) (fun k => jI (if k < S then u.2.1 r ((S : Int) * (y : Int) + (k : Int)) else 0)) 0 0 n = fun (k : Nat) => jI (if k < S then (iCp u r r0 ((S : Int) * (y : Int)) ((S0 : Int) * (x : Int)) (n : Int)).2.1 r ((S : Int) * (y : Int) + (k : Int)) else 0) := by
  funext k
  show (if 0 ≤ k ∧ k < 0 + n then jI (if 0 + (k - 0) < S0 then u.2.1 r0 ((S0 : Int) * (x : Int) + ((0 + (k - 0) : Nat) : Int)) else 0) else jI (if k < S then u.2.1 r ((S : Int) * (y : Int) + (k : Int)) else 0)) = jI (if k < S then ((if r = r then (fun i => if (S : Int) * (y : Int) ≤ i ∧ i < (S : Int) * (y : Int) + (n : Int) then u.2.1 r0 ((S0 : Int) * (x : Int) + (i - (S : Int) * (y : Int))) else u.2.1 r i) else u.2.1 r) ((S : Int) * (y : Int) + (k : Int))) else 0)
  rw [if_pos (rfl : r = r)]
  by_cases hk : k < n
  · rw [if_pos (by omega), if_pos (by omega), if_pos (by omega), if_pos (by omega), show 0 + (k - 0) = k from by omega, show (S0 : Int) * (x : Int) + ((S : Int) * (y : Int) + (k : Int) - (S : Int) * (y : Int)) = (S0 : Int) * (x : Int) + (k : Int) from by omega]
  · rw [if_neg (by omega)]
    by_cases hs : k < S
    · rw [if_pos hs, if_pos hs, if_neg (by omega)]
    · rw [if_neg hs, if_neg hs]
theorem cp_o {u : iST} {r r0 S n y y' : Nat} {b : Int} (hn : n ≤ S) (hy : y' ≠ y) : (fun (k : Nat) => jI (if k < S then u.2.1 r ((S : Int) * (y' : Int) + (k : Int)) else 0)) = fun (k : Nat) => jI (if k < S then (iCp u r r0 ((S : Int) * (y : Int)) b (n : Int)).2.1 r ((S : Int) * (y' : Int) + (k : Int)) else 0) := by
  funext k
  show jI (if k < S then u.2.1 r ((S : Int) * (y' : Int) + (k : Int)) else 0) = jI (if k < S then ((if r = r then (fun i => if (S : Int) * (y : Int) ≤ i ∧ i < (S : Int) * (y : Int) + (n : Int) then u.2.1 r0 (b + (i - (S : Int) * (y : Int))) else u.2.1 r i) else u.2.1 r) ((S : Int) * (y' : Int) + (k : Int))) else 0)
  rw [if_pos (rfl : r = r)]
  by_cases hs : k < S
  · rw [if_pos hs, if_pos hs]
    have e : ¬ ((S : Int) * (y : Int) ≤ (S : Int) * (y' : Int) + (k : Int) ∧ (S : Int) * (y' : Int) + (k : Int) < (S : Int) * (y : Int) + (n : Int)) := fun q => by
      rcases Int.lt_or_gt_of_ne (show (y' : Int) ≠ y by omega) with z | z
      · have : (S : Int) * ((y' : Int) + 1) ≤ S * y := Int.mul_le_mul_of_nonneg_left (by omega) (by omega)
        rw [Int.mul_add] at this
        omega
      · have : (S : Int) * ((y : Int) + 1) ≤ S * y' := Int.mul_le_mul_of_nonneg_left (by omega) (by omega)
        rw [Int.mul_add] at this
        omega
    rw [if_neg e]
  · rw [if_neg hs, if_neg hs]
theorem yR_C {u : iST} (h : yR u) (r r0 : Nat) (a b n : Int) (hz : r ∉ yzA) (hc : r ∉ yzC) (hx : r ≠ 57) : yR (iCp u r r0 a b n) := by
  obtain ⟨h1, h2, h3, h4, h5, h6, h7⟩ := h
  have at1 : ∀ {P : Int → Prop} (j : Nat) (x : Int), (j = r → ∀ z, P (u.2.1 r0 z)) → P (u.2.1 j x) → P ((iCp u r r0 a b n).2.1 j x) := fun {P} j x hq hp => by
    show P ((if j = r then (fun i => if a ≤ i ∧ i < a + n then u.2.1 r0 (b + (i - a)) else u.2.1 r i) else u.2.1 j) x)
    by_cases e : j = r
    · rw [if_pos e]
      show P (if a ≤ x ∧ x < a + n then u.2.1 r0 (b + (x - a)) else u.2.1 r x)
      split
      · exact hq e _
      · exact e ▸ hp
    · rw [if_neg e]; exact hp
  exact ⟨h1, fun j x => at1 (P := inR) j x (fun _ z => h2 r0 z) (h2 j x), h3, h4, fun j hj x => at1 (P := bz) j x (fun e => absurd (e ▸ hj) hz) (h5 j hj x), fun j hj x => at1 (P := inC) j x (fun e => absurd (e ▸ hj) hc) (h6 j hj x), fun x => at1 (P := fun w => 0 ≤ w ∧ w < 408) 57 x (fun e => absurd e.symm hx) (h7 x)⟩
set_option maxRecDepth 100000 in
theorem yPc_lits {ca : Nat → ClassId} {ad : Nat → Nat → Nat} {u : iST} {x y : Nat} (hy : y < 408) : (yCl ca ad u).set (473 + y) (ad 5 y, .inl (ca 0, 30, .inl (va_cpy (fun k => jI (if k < 30 then u.2.1 49 (30 * (x : Int) + (k : Int)) else 0)) (fun k => jI (if k < 30 then u.2.1 49 (30 * (y : Int) + (k : Int)) else 0)) 0 0 30))) = yCl ca ad (iCp u 49 49 (30 * (y : Int)) (30 * (x : Int)) 30) := by
  rw [show 473 + y = 65 + (408 + y) from by omega]
  unfold yCl
  rw [ybM, rgM, rgS (g := yE_lits ca ad (iCp u 49 49 (30 * (y : Int)) (30 * (x : Int)) 30)) hy ?_ ?_]
  · rfl
  · have q := cp_f (u := u) (r := 49) (r0 := 49) (S := 30) (S0 := 30) (n := 30) (x := x) (y := y) (by decide) (by decide)
    show (ad 5 y, Sum.inl (ca 0, 30, Sum.inl (va_cpy (fun k => jI (if k < 30 then u.2.1 49 (((30 : Nat) : Int) * (x : Int) + (k : Int)) else 0)) (fun k => jI (if k < 30 then u.2.1 49 (((30 : Nat) : Int) * (y : Int) + (k : Int)) else 0)) 0 0 30))) = _
    rw [q]
    rfl
  · intro j1 hj1
    have q := cp_o (u := u) (r := 49) (r0 := 49) (S := 30) (n := 30) (y := y) (y' := j1) (b := 30 * (x : Int)) (by decide) hj1
    show (ad 5 j1, Sum.inl (ca 0, 30, Sum.inl (fun (k : Nat) => jI (if k < 30 then u.2.1 49 (((30 : Nat) : Int) * (j1 : Int) + (k : Int)) else 0)))) = _
    rw [q]
    rfl
section
variable {p : Program} {l : Launch} {e : Env} {R : Room} {s : State} {m : MethodId} {args : Array Value} {below : List Frame} {meth : Method} {c : Code} {H : Heap} {locs : List Loc} {Q : State → Prop}
variable {cc : ByteArray} {pc nL : Nat} {ls : Array Slot} {rest : List Value} {D : va_G} {ca : Nat → ClassId} {A : Nat → Prop} {ad : Nat → Nat → Nat} {u : iST} {own : String}
theorem yCp_lits (X : yX RX1 p m c cc nL s args D ca ad A) (hw : yW D ca A ad s H locs u) {x y : Int} (hx : 0 ≤ x ∧ x < 408) (hy : 0 ≤ y ∧ y < 408) (hls : ls.size = nL) (hRf : 1 ≤ R.frames) (hRl : (rest.map fun v => v.category).sum + (nativeFrameWords "java/lang/System" "arraycopy" 5 + 11) ≤ R.locals) (d : decode cc pc = .ok (.invokestatic 25, 3)) {P : iST → Prop} (h : sw (iCp u 49 49 (30 * y) (30 * x) 30) P) (kk : ∀ (H : Heap) (locs : List Loc) (u : iST), yW D ca A ad s H locs u → P u → W p l e R s m args below meth c H locs 0 0 Q (F0 m (pc + 3) ls (rest))) : W p l e R s m args below meth c H locs 0 0 Q (F0 m pc ls (.int (jI 30) :: .int (jI 0) :: .ref (ad 5 y.toNat) :: .int (jI 0) :: .ref (ad 5 x.toNat) :: rest)) := by
  obtain ⟨n, rfl⟩ := Int.eq_ofNat_of_zero_le hx.1
  obtain ⟨k, rfl⟩ := Int.eq_ofNat_of_zero_le hy.1
  have hn : n < 408 := by omega
  have hk : k < 408 := by omega
  refine va_copyi X.1.1 X.1.2.1 (by rw [X.1.2.2.1]; exact hls.symm) X.1.2.2.2.1 (X.1.2.2.2.2 _ yJ_0) (X.1.2.2.2.2 _ yJ_12) (X.1.2.2.2.2 _ yJ_13) (X.1.2.2.2.2 _ yJ_14) X.2.1 hw.1 hw.2.1 hw.2.2.1 (473 + n) (473 + k) 0 0 (ty := .int) (yGf_lits hn) (yGf_lits hk) rfl rfl rfl (by decide) (by decide) (by decide) (by decide) (by decide) (fun _ _ => rfl) hRf hRl d (fun H locs hP hD hS => ?_)
  have e : (yCl ca ad u).set (473 + k) (ad 5 k, .inl (ca 0, 30, .inl (va_cpy (fun k => jI (if k < 30 then u.2.1 49 (30 * (n : Int) + (k : Int)) else 0)) (fun j => jI (if j < 30 then u.2.1 49 (30 * (k : Int) + (j : Int)) else 0)) (jI 0).toNatClampNeg (jI 0).toNatClampNeg (jI 30).toNatClampNeg))) = yCl ca ad (iCp u 49 49 (30 * (k : Int)) (30 * (n : Int)) 30) := yPc_lits hk
  rw [e] at hP hD
  exact kk H locs _ ⟨hP, hD, hS, yR_C hw.2.2.2.1 49 49 _ _ _ (by decide) (by decide) (by decide), hw.2.2.2.2⟩ (h _ rfl)
end
set_option maxRecDepth 100000 in
theorem yPc_notes {ca : Nat → ClassId} {ad : Nat → Nat → Nat} {u : iST} {x y : Nat} (hy : y < 1000) : (yCl ca ad u).set (1001 + y) (ad 8 y, .inl (ca 0, 5, .inl (va_cpy (fun k => jI (if k < 17 then u.2.1 51 (17 * (x : Int) + (k : Int)) else 0)) (fun k => jI (if k < 5 then u.2.1 52 (5 * (y : Int) + (k : Int)) else 0)) 0 0 3))) = yCl ca ad (iCp u 52 51 (5 * (y : Int)) (17 * (x : Int)) 3) := by
  rw [show 1001 + y = 65 + (408 + (408 + (60 + (60 + y)))) from by omega]
  unfold yCl
  rw [ybM, rgM, rgM, rgM, rgM, rgS (g := yE_notes ca ad (iCp u 52 51 (5 * (y : Int)) (17 * (x : Int)) 3)) hy ?_ ?_]
  · rfl
  · have q := cp_f (u := u) (r := 52) (r0 := 51) (S := 5) (S0 := 17) (n := 3) (x := x) (y := y) (by decide) (by decide)
    show (ad 8 y, Sum.inl (ca 0, 5, Sum.inl (va_cpy (fun k => jI (if k < 17 then u.2.1 51 (((17 : Nat) : Int) * (x : Int) + (k : Int)) else 0)) (fun k => jI (if k < 5 then u.2.1 52 (((5 : Nat) : Int) * (y : Int) + (k : Int)) else 0)) 0 0 3))) = _
    rw [q]
    rfl
  · intro j1 hj1
    have q := cp_o (u := u) (r := 52) (r0 := 51) (S := 5) (n := 3) (y := y) (y' := j1) (b := 17 * (x : Int)) (by decide) hj1
    show (ad 8 j1, Sum.inl (ca 0, 5, Sum.inl (fun (k : Nat) => jI (if k < 5 then u.2.1 52 (((5 : Nat) : Int) * (j1 : Int) + (k : Int)) else 0)))) = _
    rw [q]
    rfl
section
variable {p : Program} {l : Launch} {e : Env} {R : Room} {s : State} {m : MethodId} {args : Array Value} {below : List Frame} {meth : Method} {c : Code} {H : Heap} {locs : List Loc} {Q : State → Prop}
variable {cc : ByteArray} {pc nL : Nat} {ls : Array Slot} {rest : List Value} {D : va_G} {ca : Nat → ClassId} {A : Nat → Prop} {ad : Nat → Nat → Nat} {u : iST} {own : String}
theorem yCp_notes (X : yX RX6 p m c cc nL s args D ca ad A) (hw : yW D ca A ad s H locs u) {x y : Int} (hx : 0 ≤ x ∧ x < 60) (hy : 0 ≤ y ∧ y < 1000) (hls : ls.size = nL) (hRf : 1 ≤ R.frames) (hRl : (rest.map fun v => v.category).sum + (nativeFrameWords "java/lang/System" "arraycopy" 5 + 11) ≤ R.locals) (d : decode cc pc = .ok (.invokestatic 159, 3)) {P : iST → Prop} (h : sw (iCp u 52 51 (5 * y) (17 * x) 3) P) (kk : ∀ (H : Heap) (locs : List Loc) (u : iST), yW D ca A ad s H locs u → P u → W p l e R s m args below meth c H locs 0 0 Q (F0 m (pc + 3) ls (rest))) : W p l e R s m args below meth c H locs 0 0 Q (F0 m pc ls (.int (jI 3) :: .int (jI 0) :: .ref (ad 8 y.toNat) :: .int (jI 0) :: .ref (ad 7 x.toNat) :: rest)) := by
  obtain ⟨n, rfl⟩ := Int.eq_ofNat_of_zero_le hx.1
  obtain ⟨k, rfl⟩ := Int.eq_ofNat_of_zero_le hy.1
  have hn : n < 60 := by omega
  have hk : k < 1000 := by omega
  refine va_copyi X.1.1 X.1.2.1 (by rw [X.1.2.2.1]; exact hls.symm) X.1.2.2.2.1 (X.1.2.2.2.2 _ yJ_2) (X.1.2.2.2.2 _ yJ_12) (X.1.2.2.2.2 _ yJ_13) (X.1.2.2.2.2 _ yJ_14) X.2.1 hw.1 hw.2.1 hw.2.2.1 (941 + n) (1001 + k) 0 0 (ty := .int) (yGf_frames hn) (yGf_notes hk) rfl rfl rfl (by decide) (by decide) (by decide) (by decide) (by decide) (fun _ _ => rfl) hRf hRl d (fun H locs hP hD hS => ?_)
  have e : (yCl ca ad u).set (1001 + k) (ad 8 k, .inl (ca 0, 5, .inl (va_cpy (fun k => jI (if k < 17 then u.2.1 51 (17 * (n : Int) + (k : Int)) else 0)) (fun j => jI (if j < 5 then u.2.1 52 (5 * (k : Int) + (j : Int)) else 0)) (jI 0).toNatClampNeg (jI 0).toNatClampNeg (jI 3).toNatClampNeg))) = yCl ca ad (iCp u 52 51 (5 * (k : Int)) (17 * (n : Int)) 3) := yPc_notes hk
  rw [e] at hP hD
  exact kk H locs _ ⟨hP, hD, hS, yR_C hw.2.2.2.1 52 51 _ _ _ (by decide) (by decide) (by decide), hw.2.2.2.2⟩ (h _ rfl)
end
