/-! contracts of the class's methods -/
abbrev yWd (D : va_G) (ca : Nat → ClassId) (A : Nat → Prop) (ad : Nat → Nat → Nat) (u : iST) (t : State) : Prop := (va_P D vwCl (yCl ca ad u) t.heap ∧ va_K D vwCl (yTy ca) t ∧ va_D A (yCl ca ad u)) ∧ yR u
abbrev yPre (D : va_G) (ca : Nat → ClassId) (ad : Nat → Nat → Nat) (u : iST) (sz : Nat) (U : State) : Prop := U.heap.size = sz ∧ yWd D ca (fun _ => True) ad u U ∧ yE ad (va_A (yCl ca ad u) sz) U U.heap
def yMI (l : Launch) (y : MethodName) (ws : List Cond) (rm : Room) (As : (Nat → Nat → Nat) → List Value) (Q : Int → iST → Prop) (u : iST) : Prop := ∀ (D : va_G) (ca : Nat → ClassId) (sz : Nat) (ad : Nat → Nat → Nat), Met l y ws rm (va_Pc (As ad) (yPre D ca ad u sz)) (va_Qi (fun (r : Int32) (v : iST) => ∃ x, r = jI x ∧ inR x ∧ Q x v) (yWd D ca (va_A (yCl ca ad u) sz) ad) (va_A (yCl ca ad u) sz)) 0 0 (va_A (yCl ca ad u) sz)
def yML (l : Launch) (y : MethodName) (ws : List Cond) (rm : Room) (As : (Nat → Nat → Nat) → List Value) (Q : Int → iST → Prop) (u : iST) : Prop := ∀ (D : va_G) (ca : Nat → ClassId) (sz : Nat) (ad : Nat → Nat → Nat), Met l y ws rm (va_Pc (As ad) (yPre D ca ad u sz)) (va_Ql (fun (r : Int64) (v : iST) => ∃ x, r = jL x ∧ inL x ∧ Q x v) (yWd D ca (va_A (yCl ca ad u) sz) ad) (va_A (yCl ca ad u) sz)) 0 0 (va_A (yCl ca ad u) sz)
def yMV (l : Launch) (y : MethodName) (ws : List Cond) (rm : Room) (As : (Nat → Nat → Nat) → List Value) (Q : iST → Prop) (u : iST) : Prop := ∀ (D : va_G) (ca : Nat → ClassId) (sz : Nat) (ad : Nat → Nat → Nat), Met l y ws rm (va_Pc (As ad) (yPre D ca ad u sz)) (va_Qv Q (yWd D ca (va_A (yCl ca ad u) sz) ad) (va_A (yCl ca ad u) sz)) 0 0 (va_A (yCl ca ad u) sz)
def yMR (l : Launch) (y : MethodName) (ws : List Cond) (rm : Room) (As : (Nat → Nat → Nat) → List Value) (Q : Int → iST → Prop) (u : iST) : Prop := ∀ (D : va_G) (ca : Nat → ClassId) (sz : Nat) (ad : Nat → Nat → Nat), Met l y ws rm (va_Pc (As ad) (yPre D ca ad u sz)) (va_Qr (fun (x : Int × iST) => (0 ≤ x.1 ∧ x.1 < 408) ∧ Q x.1 x.2) (fun x a t => a = ad 4 x.1.toNat ∧ yWd D ca (va_A (yCl ca ad u) sz) ad x.2 t) (va_A (yCl ca ad u) sz)) 0 0 (va_A (yCl ca ad u) sz)
section
variable {p : Program} {l : Launch} {e : Env} {R : Room} {s : State} {m : MethodId} {args : Array Value} {below : List Frame} {meth : Method} {c : Code} {H : Heap} {locs : List Loc} {Q : State → Prop}
variable {cc : ByteArray} {pc nL : Nat} {ls : Array Slot} {rest : List Value} {D : va_G} {ca : Nat → ClassId} {A : Nat → Prop} {ad : Nat → Nat → Nat} {u : iST} {own : String}
theorem yfree (hw : yW D ca A ad s H locs u) : ∀ q, va_A (yCl ca ad u) H.size q → A q := pl_free hw.2.1 hw.2.2.1 hw.2.2.2.2
theorem yblind {As : List Value} {sz : Nat} : FrameBlind (va_Pc As (yPre D ca ad u sz)) := fun a U g mk q => by
  obtain ⟨q0, q1, ⟨⟨qP, qK, qD⟩, qR⟩, qE⟩ := q
  exact ⟨q0, q1, ⟨⟨qP, va_K.moved (u := U) (U := U.calling g mk a) (Vm.Alike.refl U.vm) qK, qD⟩, qR⟩, yE.calling (U := U) (V := U.calling g mk a) rfl qE⟩
theorem ystart {U : State} (X : yX own p m c cc nL s args D ca ad A) (hw : yW D ca A ad s H locs u) (hU : U.heap = H) (hW : s.WarmedH U.vm) : yPre D ca ad u H.size U := by
  subst hU
  exact ⟨rfl, ⟨⟨hw.1, va_K.moved hW.alike X.2.1, hw.2.1.weaken (fun _ _ _ _ => trivial)⟩, hw.2.2.2.1⟩, yE.start X.2.2 hW hw.2.2.1 (yfree hw)⟩
theorem yback {A1 : Nat → Prop} {t : State} {H1 : Heap} {locs1 : List Loc} {v : iST} (hw : yW D ca A ad s H locs u) (hA1 : A1 = va_A (yCl ca ad u) H.size) (ht : t.heap = H1) (hB : yWd D ca A1 ad v t) (hS : va_S A s.heap H1 locs1) : yW D ca A ad s H1 locs1 v := by
  obtain ⟨⟨hP1, hK1, hD1⟩, hR⟩ := hB
  subst hA1
  rw [ht] at hP1
  exact ⟨hP1, hD1.weaken (fun _ _ _ h => yfree hw _ h), hS, hR, hw.2.2.2.2⟩
theorem goodSelf {y : MethodName} {cy : ByteArray} {mx : Nat} {ret : Option FieldType} (j : Nat) (h : ysM[j]? = some (.code y cy mx ret)) : GoodIn wsN (.code y cy mx ret :: wsN) := by
  refine fun w hw => ?_
  have hm : w ∈ wsN := by
    rcases List.mem_cons.mp hw with rfl | h
    · exact ysM_in (List.mem_of_getElem? h)
    · exact h
  exact ⟨hm, good_of_word (wsN_good w hm)⟩
theorem ycI {y : MethodName} {cy : ByteArray} {mx : Nat} {ret : Option FieldType} {Fy Ly idx n : Nat} {As : (Nat → Nat → Nat) → List Value} {K : Int → iST → Prop} (hM : yMI l y (.code y cy mx ret :: wsN) { frames := Fy, cells := 0, slots := 0, locals := Ly } As K u) (ci q0 : Nat) {r : vw_C} {b : Nat} {fs A1 : List Value} (hA : As ad = .ref b :: A1) (hG : GoodIn wsN (wsV own idx r.1 y (.code y cy mx ret :: wsN))) (hd : y.cls = r.1 ∧ y.cls ≠ "java/lang/invoke/MethodHandle" ∧ y.cls ≠ "java/lang/invoke/VarHandle" ∧ (parseMethodDescriptor y.desc).map (fun d => d.parameters.length) = some n) (X : yX own p m c cc nL s args D ca ad A) (hw : yW D ca A ad s H locs u) (hci : vwCl[ci]? = some r) (hg : (yCl ca ad u)[q0]? = some (b, .inr (ci, fs))) (hRf : Fy + 1 ≤ R.frames) (hRl : 8 + (mx + 11) + Ly ≤ R.locals) (hn : A1.length = n) (hls : ls.size = nL) (hst : (rest.map fun v => v.category).sum ≤ 8) {st : List Value} (hsk : st = A1.reverse ++ .ref b :: rest) (d : decode cc pc = .ok (.invokevirtual idx, 3))
    (kk : ∀ (r : Int) (v : iST) (H : Heap) (locs : List Loc), inR r → K r v → yW D ca A ad s H locs v → W p l e R s m args below meth c H locs 0 0 Q (F0 m (pc + 3) ls (.int (jI r) :: rest))) : W p l e R s m args below meth c H locs 0 0 Q (F0 m pc ls st) := by
  subst hsk
  have hM2 := hM D ca H.size ad
  rw [hA] at hM2
  refine va_calli (va_runV (rest := rest) X.1 hM2 (cwV n X.1.2.2.2.2 hG rfl rfl rfl hd ⟨hRf, hRl⟩) ⟨yblind, va_recv X.2.1 hw.1 (ci := ci) (q0 := q0) hci hg, fun U hU hW => ⟨rfl, ystart X hw hU hW⟩⟩ rfl hn hls rfl (lv_room hst) d ⟨Nat.zero_le _, Nat.zero_le _⟩) hw.2.2.1 (fun q _ h => yfree hw q h) (yfree hw) (fun r v t H1 locs1 ht hvm hp hB hz1 hk1 hS => ?_)
  obtain ⟨x, rfl, hx, hK⟩ := hp
  exact kk x v H1 locs1 hx hK (yback hw rfl ht hB hS)
theorem ycL {y : MethodName} {cy : ByteArray} {mx : Nat} {ret : Option FieldType} {Fy Ly idx n : Nat} {As : (Nat → Nat → Nat) → List Value} {K : Int → iST → Prop} (hM : yML l y (.code y cy mx ret :: wsN) { frames := Fy, cells := 0, slots := 0, locals := Ly } As K u) (ci q0 : Nat) {r : vw_C} {b : Nat} {fs A1 : List Value} (hA : As ad = .ref b :: A1) (hG : GoodIn wsN (wsV own idx r.1 y (.code y cy mx ret :: wsN))) (hd : y.cls = r.1 ∧ y.cls ≠ "java/lang/invoke/MethodHandle" ∧ y.cls ≠ "java/lang/invoke/VarHandle" ∧ (parseMethodDescriptor y.desc).map (fun d => d.parameters.length) = some n) (X : yX own p m c cc nL s args D ca ad A) (hw : yW D ca A ad s H locs u) (hci : vwCl[ci]? = some r) (hg : (yCl ca ad u)[q0]? = some (b, .inr (ci, fs))) (hRf : Fy + 1 ≤ R.frames) (hRl : 8 + (mx + 11) + Ly ≤ R.locals) (hn : A1.length = n) (hls : ls.size = nL) (hst : (rest.map fun v => v.category).sum ≤ 8) {st : List Value} (hsk : st = A1.reverse ++ .ref b :: rest) (d : decode cc pc = .ok (.invokevirtual idx, 3))
    (kk : ∀ (r : Int) (v : iST) (H : Heap) (locs : List Loc), inL r → K r v → yW D ca A ad s H locs v → W p l e R s m args below meth c H locs 0 0 Q (F0 m (pc + 3) ls (.long (jL r) :: rest))) : W p l e R s m args below meth c H locs 0 0 Q (F0 m pc ls st) := by
  subst hsk
  have hM2 := hM D ca H.size ad
  rw [hA] at hM2
  refine va_calll (va_runV (rest := rest) X.1 hM2 (cwV n X.1.2.2.2.2 hG rfl rfl rfl hd ⟨hRf, hRl⟩) ⟨yblind, va_recv X.2.1 hw.1 (ci := ci) (q0 := q0) hci hg, fun U hU hW => ⟨rfl, ystart X hw hU hW⟩⟩ rfl hn hls rfl (lv_room hst) d ⟨Nat.zero_le _, Nat.zero_le _⟩) hw.2.2.1 (fun q _ h => yfree hw q h) (yfree hw) (fun r v t H1 locs1 ht hvm hp hB hz1 hk1 hS => ?_)
  obtain ⟨x, rfl, hx, hK⟩ := hp
  exact kk x v H1 locs1 hx hK (yback hw rfl ht hB hS)
theorem ycV {y : MethodName} {cy : ByteArray} {mx : Nat} {ret : Option FieldType} {Fy Ly idx n : Nat} {As : (Nat → Nat → Nat) → List Value} {K : iST → Prop} (hM : yMV l y (.code y cy mx ret :: wsN) { frames := Fy, cells := 0, slots := 0, locals := Ly } As K u) (ci q0 : Nat) {r : vw_C} {b : Nat} {fs A1 : List Value} (hA : As ad = .ref b :: A1) (hG : GoodIn wsN (wsV own idx r.1 y (.code y cy mx ret :: wsN))) (hd : y.cls = r.1 ∧ y.cls ≠ "java/lang/invoke/MethodHandle" ∧ y.cls ≠ "java/lang/invoke/VarHandle" ∧ (parseMethodDescriptor y.desc).map (fun d => d.parameters.length) = some n) (X : yX own p m c cc nL s args D ca ad A) (hw : yW D ca A ad s H locs u) (hci : vwCl[ci]? = some r) (hg : (yCl ca ad u)[q0]? = some (b, .inr (ci, fs))) (hRf : Fy + 1 ≤ R.frames) (hRl : 8 + (mx + 11) + Ly ≤ R.locals) (hn : A1.length = n) (hls : ls.size = nL) (hst : (rest.map fun v => v.category).sum ≤ 8) {st : List Value} (hsk : st = A1.reverse ++ .ref b :: rest) (d : decode cc pc = .ok (.invokevirtual idx, 3))
    (kk : ∀ (v : iST) (H : Heap) (locs : List Loc), K v → yW D ca A ad s H locs v → W p l e R s m args below meth c H locs 0 0 Q (F0 m (pc + 3) ls rest)) : W p l e R s m args below meth c H locs 0 0 Q (F0 m pc ls st) := by
  subst hsk
  have hM2 := hM D ca H.size ad
  rw [hA] at hM2
  refine va_callv (va_runV (rest := rest) X.1 hM2 (cwV n X.1.2.2.2.2 hG rfl rfl rfl hd ⟨hRf, hRl⟩) ⟨yblind, va_recv X.2.1 hw.1 (ci := ci) (q0 := q0) hci hg, fun U hU hW => ⟨rfl, ystart X hw hU hW⟩⟩ rfl hn hls rfl (lv_room hst) d ⟨Nat.zero_le _, Nat.zero_le _⟩) hw.2.2.1 (fun q _ h => yfree hw q h) (yfree hw) (fun v t H1 locs1 ht hvm hp hB hz1 hk1 hS => ?_)
  exact kk v H1 locs1 hp (yback hw rfl ht hB hS)
theorem ycR {y : MethodName} {cy : ByteArray} {mx : Nat} {ret : Option FieldType} {Fy Ly idx n : Nat} {As : (Nat → Nat → Nat) → List Value} {K : Int → iST → Prop} (hM : yMR l y (.code y cy mx ret :: wsN) { frames := Fy, cells := 0, slots := 0, locals := Ly } As K u) (ci q0 : Nat) {r : vw_C} {b : Nat} {fs A1 : List Value} (hA : As ad = .ref b :: A1) (hG : GoodIn wsN (wsV own idx r.1 y (.code y cy mx ret :: wsN))) (hd : y.cls = r.1 ∧ y.cls ≠ "java/lang/invoke/MethodHandle" ∧ y.cls ≠ "java/lang/invoke/VarHandle" ∧ (parseMethodDescriptor y.desc).map (fun d => d.parameters.length) = some n) (X : yX own p m c cc nL s args D ca ad A) (hw : yW D ca A ad s H locs u) (hci : vwCl[ci]? = some r) (hg : (yCl ca ad u)[q0]? = some (b, .inr (ci, fs))) (hRf : Fy + 1 ≤ R.frames) (hRl : 8 + (mx + 11) + Ly ≤ R.locals) (hn : A1.length = n) (hls : ls.size = nL) (hst : (rest.map fun v => v.category).sum ≤ 8) {st : List Value} (hsk : st = A1.reverse ++ .ref b :: rest) (d : decode cc pc = .ok (.invokevirtual idx, 3))
    (kk : ∀ (r : Int) (v : iST) (H : Heap) (locs : List Loc), (0 ≤ r ∧ r < 408) → K r v → yW D ca A ad s H locs v → W p l e R s m args below meth c H locs 0 0 Q (F0 m (pc + 3) ls (.ref (ad 4 r.toNat) :: rest))) : W p l e R s m args below meth c H locs 0 0 Q (F0 m pc ls st) := by
  subst hsk
  have hM2 := hM D ca H.size ad
  rw [hA] at hM2
  refine va_callr (va_runV (rest := rest) X.1 hM2 (cwV n X.1.2.2.2.2 hG rfl rfl rfl hd ⟨hRf, hRl⟩) ⟨yblind, va_recv X.2.1 hw.1 (ci := ci) (q0 := q0) hci hg, fun U hU hW => ⟨rfl, ystart X hw hU hW⟩⟩ rfl hn hls rfl (lv_room hst) d ⟨Nat.zero_le _, Nat.zero_le _⟩) hw.2.2.1 (fun q _ h => yfree hw q h) (yfree hw) (fun x ra t H1 locs1 ht hvm hp hB hz1 hk1 hS => ?_)
  obtain ⟨ea, hB⟩ := hB
  subst ea
  exact kk x.1 x.2 H1 locs1 hp.1 hp.2 (yback hw rfl ht hB hS)
theorem ycSN {y : MethodName} {cy : ByteArray} {mx : Nat} {ret : Option FieldType} {Fy Ly idx n : Nat} {As : (Nat → Nat → Nat) → List Value} {K : Int → iST → Prop} (hM : yML l y (.code y cy mx ret :: wsN) { frames := Fy, cells := 0, slots := 0, locals := Ly } As K u) {host : String} {A1 : List Value} (hA : As ad = A1) (hG : GoodIn wsN (.code y cy mx ret :: wsN)) (hd : y.cls ≠ "java/lang/invoke/MethodHandle" ∧ y.cls ≠ "java/lang/invoke/VarHandle" ∧ (parseMethodDescriptor y.desc).map (fun d => d.parameters.length) = some n) (X : yX own p m c cc nL s args D ca ad A) (hw : yW D ca A ad s H locs u) (hl : va_Nw (.methodLinkNest own idx y host) s) (hi : Cond.initialized y.cls ∈ wsN) (hs : Cond.static y ∈ wsN) (hRf : Fy + 1 ≤ R.frames) (hRl : 8 + (mx + 11) + Ly ≤ R.locals) (hn : A1.length = n) (hls : ls.size = nL) (hst : (rest.map fun v => v.category).sum ≤ 8) {st : List Value} (hsk : st = A1.reverse ++ rest) (d : decode cc pc = .ok (.invokestatic idx, 3))
    (kk : ∀ (r : Int) (v : iST) (H : Heap) (locs : List Loc), inL r → K r v → yW D ca A ad s H locs v → W p l e R s m args below meth c H locs 0 0 Q (F0 m (pc + 3) ls (.long (jL r) :: rest))) : W p l e R s m args below meth c H locs 0 0 Q (F0 m pc ls st) := by
  subst hsk
  have hM2 := hM D ca H.size ad
  rw [hA] at hM2
  refine va_calll (va_runSN (rest := rest) X.1 hM2 ⟨va_cnB n X.1.2.2.2.2 hG rfl rfl rfl hl (X.1.2.2.2.2 _ hi) hd ⟨hRf, hRl⟩, X.1.2.2.2.2 _ hs, trivial⟩ ⟨yblind, fun U hU hW => ⟨rfl, ystart X hw hU hW⟩⟩ rfl hn hls rfl (lv_room hst) d ⟨Nat.zero_le _, Nat.zero_le _⟩) hw.2.2.1 (fun q _ h => yfree hw q h) (yfree hw) (fun r v t H1 locs1 ht hvm hp hB hz1 hk1 hS => ?_)
  obtain ⟨x, rfl, hx, hK⟩ := hp
  exact kk x v H1 locs1 hx hK (yback hw rfl ht hB hS)
theorem ycS {y : MethodName} {cy : ByteArray} {mx : Nat} {ret : Option FieldType} {Fy Ly idx n : Nat} {As : (Nat → Nat → Nat) → List Value} {K : Int → iST → Prop} (hM : yML l y (.code y cy mx ret :: wsN) { frames := Fy, cells := 0, slots := 0, locals := Ly } As K u) {A1 : List Value} (hA : As ad = A1) (hG : GoodIn wsN (va_wsS own idx y (.code y cy mx ret :: wsN))) (hd : y.cls ≠ "java/lang/invoke/MethodHandle" ∧ y.cls ≠ "java/lang/invoke/VarHandle" ∧ (parseMethodDescriptor y.desc).map (fun d => d.parameters.length) = some n) (X : yX own p m c cc nL s args D ca ad A) (hw : yW D ca A ad s H locs u) (hRf : Fy + 1 ≤ R.frames) (hRl : 8 + (mx + 11) + Ly ≤ R.locals) (hn : A1.length = n) (hls : ls.size = nL) (hst : (rest.map fun v => v.category).sum ≤ 8) {st : List Value} (hsk : st = A1.reverse ++ rest) (d : decode cc pc = .ok (.invokestatic idx, 3))
    (kk : ∀ (r : Int) (v : iST) (H : Heap) (locs : List Loc), inL r → K r v → yW D ca A ad s H locs v → W p l e R s m args below meth c H locs 0 0 Q (F0 m (pc + 3) ls (.long (jL r) :: rest))) : W p l e R s m args below meth c H locs 0 0 Q (F0 m pc ls st) := by
  subst hsk
  have hM2 := hM D ca H.size ad
  rw [hA] at hM2
  refine va_calll (va_runS (rest := rest) X.1 hM2 (va_cwS n X.1.2.2.2.2 hG rfl rfl rfl hd ⟨hRf, hRl⟩) ⟨yblind, fun U hU hW => ⟨rfl, ystart X hw hU hW⟩⟩ rfl hn hls rfl (lv_room hst) d ⟨Nat.zero_le _, Nat.zero_le _⟩) hw.2.2.1 (fun q _ h => yfree hw q h) (yfree hw) (fun r v t H1 locs1 ht hvm hp hB hz1 hk1 hS => ?_)
  obtain ⟨x, rfl, hx, hK⟩ := hp
  exact kk x v H1 locs1 hx hK (yback hw rfl ht hB hS)
end
theorem yMI_of {l : Launch} {y : MethodName} {cy : ByteArray} {mx F L : Nat} {own : String} {As : (Nat → Nat → Nat) → List Value} {Q : Int → iST → Prop} {u : iST} (hcl : y.cls = own) (hpl : plainName own = true) (hmx : ∀ ad, (lg_sl (As ad)).length ≤ mx)
    (body : ∀ {p : Program} {e : Env} {R : Room} {s : State} {m : MethodId} {args : Array Value} {below : List Frame} {meth : Method} {c : Code} {H : Heap} {locs : List Loc} {Qf : State → Prop} {ls : Array Slot} {D : va_G} {ca : Nat → ClassId} {A : Nat → Prop} {ad : Nat → Nat → Nat}, yX own p m c cy mx s args D ca ad A → F ≤ R.frames → L ≤ R.locals → (∀ (v : Int) (u : iST) (H : Heap) (locs : List Loc) (ls : Array Slot) (pc : Nat), inR v → Q v u → yW D ca A ad s H locs u → decode cy pc = .ok (.ireturn, 1) → W p l e R s m args below meth c H locs 0 0 Qf (F0 m pc ls [.int (jI v)])) → yW D ca A ad s H locs u → lv_has ls mx (lv_args 0 (As ad)) → W p l e R s m args below meth c H locs 0 0 Qf (F0 m 0 ls [])) : yMI l y (.code y cy mx (some .int) :: wsN) { frames := F, cells := 0, slots := 0, locals := L } As Q u := by
  have hy : plainName y.cls = true := by rw [hcl]; exact hpl
  intro D ca sz ad
  refine Met.ofW (cc := cy) (maxL := mx) (ret := (some .int)) hy rfl ?_
  intro p e s m args below meth c s₁ B hml hv
  obtain ⟨rfl, hsz, ⟨⟨hP, hK, hD0⟩, hR⟩, hE⟩ := hv
  have hr := B.returns
  have hts := atoms_spec (ws := _) B.pre
  have hlocks := B.notSynchronized
  subst hsz
  have hD := hD0.self (sz := s.heap.size)
  have hl := lv_entry (As ad) (n := mx) (hmx ad)
  rw [lg_entry_eq]
  have hw : yW D ca (va_A (yCl ca ad u) s.heap.size) ad s s.heap [] u := ⟨hP, hD, va_S.rf, hR, fun q h => Or.inr h⟩
  exact body ⟨⟨B.exec, B.bytes, hml, hcl ▸ findClass_of_methodNamed B.named, fun w hw => hts w (List.mem_cons_of_mem _ hw)⟩, hK, hE⟩ (Nat.le_refl _) (Nat.le_refl _) (fun v u H locs ls pc hv hq hw d => W.iret (v := jI v) B.exec B.bytes hr (fun t ht hW => ⟨⟨jI v, u, rfl, ⟨v, rfl, hv, hq⟩, ⟨by rw [ht]; exact hw.1, va_K.moved hW.alike hK, hw.2.1⟩, hw.2.2.2.1⟩, hw.2.2.1.F ht⟩) hw.2.2.1.2.2 d) hw hl
theorem yMZ_of {l : Launch} {y : MethodName} {cy : ByteArray} {mx F L : Nat} {own : String} {As : (Nat → Nat → Nat) → List Value} {Q : Int → iST → Prop} {u : iST} (hcl : y.cls = own) (hpl : plainName own = true) (hmx : ∀ ad, (lg_sl (As ad)).length ≤ mx)
    (body : ∀ {p : Program} {e : Env} {R : Room} {s : State} {m : MethodId} {args : Array Value} {below : List Frame} {meth : Method} {c : Code} {H : Heap} {locs : List Loc} {Qf : State → Prop} {ls : Array Slot} {D : va_G} {ca : Nat → ClassId} {A : Nat → Prop} {ad : Nat → Nat → Nat}, yX own p m c cy mx s args D ca ad A → F ≤ R.frames → L ≤ R.locals → (∀ (v : Int) (u : iST) (H : Heap) (locs : List Loc) (ls : Array Slot) (pc : Nat), bz v → Q v u → yW D ca A ad s H locs u → decode cy pc = .ok (.ireturn, 1) → W p l e R s m args below meth c H locs 0 0 Qf (F0 m pc ls [.int (jI v)])) → yW D ca A ad s H locs u → lv_has ls mx (lv_args 0 (As ad)) → W p l e R s m args below meth c H locs 0 0 Qf (F0 m 0 ls [])) : yMI l y (.code y cy mx (some .boolean) :: wsN) { frames := F, cells := 0, slots := 0, locals := L } As Q u := by
  have hy : plainName y.cls = true := by rw [hcl]; exact hpl
  intro D ca sz ad
  refine Met.ofW (cc := cy) (maxL := mx) (ret := (some .boolean)) hy rfl ?_
  intro p e s m args below meth c s₁ B hml hv
  obtain ⟨rfl, hsz, ⟨⟨hP, hK, hD0⟩, hR⟩, hE⟩ := hv
  have hr := B.returns
  have hts := atoms_spec (ws := _) B.pre
  have hlocks := B.notSynchronized
  subst hsz
  have hD := hD0.self (sz := s.heap.size)
  have hl := lv_entry (As ad) (n := mx) (hmx ad)
  rw [lg_entry_eq]
  have hw : yW D ca (va_A (yCl ca ad u) s.heap.size) ad s s.heap [] u := ⟨hP, hD, va_S.rf, hR, fun q h => Or.inr h⟩
  exact body ⟨⟨B.exec, B.bytes, hml, hcl ▸ findClass_of_methodNamed B.named, fun w hw => hts w (List.mem_cons_of_mem _ hw)⟩, hK, hE⟩ (Nat.le_refl _) (Nat.le_refl _) (fun v u H locs ls pc hv hq hw d => W.zret (v := jI v) B.exec B.bytes hr (bz_nar hv) (fun t ht hW => ⟨⟨jI v, u, rfl, ⟨v, rfl, bz_in hv, hq⟩, ⟨by rw [ht]; exact hw.1, va_K.moved hW.alike hK, hw.2.1⟩, hw.2.2.2.1⟩, hw.2.2.1.F ht⟩) hw.2.2.1.2.2 d) hw hl
theorem yML_of {l : Launch} {y : MethodName} {cy : ByteArray} {mx F L : Nat} {own : String} {As : (Nat → Nat → Nat) → List Value} {Q : Int → iST → Prop} {u : iST} (hcl : y.cls = own) (hpl : plainName own = true) (hmx : ∀ ad, (lg_sl (As ad)).length ≤ mx)
    (body : ∀ {p : Program} {e : Env} {R : Room} {s : State} {m : MethodId} {args : Array Value} {below : List Frame} {meth : Method} {c : Code} {H : Heap} {locs : List Loc} {Qf : State → Prop} {ls : Array Slot} {D : va_G} {ca : Nat → ClassId} {A : Nat → Prop} {ad : Nat → Nat → Nat}, yX own p m c cy mx s args D ca ad A → F ≤ R.frames → L ≤ R.locals → (∀ (v : Int) (u : iST) (H : Heap) (locs : List Loc) (ls : Array Slot) (pc : Nat), inL v → Q v u → yW D ca A ad s H locs u → decode cy pc = .ok (.lreturn, 1) → W p l e R s m args below meth c H locs 0 0 Qf (F0 m pc ls [.long (jL v)])) → yW D ca A ad s H locs u → lv_has ls mx (lv_args 0 (As ad)) → W p l e R s m args below meth c H locs 0 0 Qf (F0 m 0 ls [])) : yML l y (.code y cy mx (some .long) :: wsN) { frames := F, cells := 0, slots := 0, locals := L } As Q u := by
  have hy : plainName y.cls = true := by rw [hcl]; exact hpl
  intro D ca sz ad
  refine Met.ofW (cc := cy) (maxL := mx) (ret := (some .long)) hy rfl ?_
  intro p e s m args below meth c s₁ B hml hv
  obtain ⟨rfl, hsz, ⟨⟨hP, hK, hD0⟩, hR⟩, hE⟩ := hv
  have hr := B.returns
  have hts := atoms_spec (ws := _) B.pre
  have hlocks := B.notSynchronized
  subst hsz
  have hD := hD0.self (sz := s.heap.size)
  have hl := lv_entry (As ad) (n := mx) (hmx ad)
  rw [lg_entry_eq]
  have hw : yW D ca (va_A (yCl ca ad u) s.heap.size) ad s s.heap [] u := ⟨hP, hD, va_S.rf, hR, fun q h => Or.inr h⟩
  exact body ⟨⟨B.exec, B.bytes, hml, hcl ▸ findClass_of_methodNamed B.named, fun w hw => hts w (List.mem_cons_of_mem _ hw)⟩, hK, hE⟩ (Nat.le_refl _) (Nat.le_refl _) (fun v u H locs ls pc hv hq hw d => W.lret (v := jL v) B.exec B.bytes hr (fun t ht hW => ⟨⟨jL v, u, rfl, ⟨v, rfl, hv, hq⟩, ⟨by rw [ht]; exact hw.1, va_K.moved hW.alike hK, hw.2.1⟩, hw.2.2.2.1⟩, hw.2.2.1.F ht⟩) hw.2.2.1.2.2 d) hw hl
theorem yMV_of {l : Launch} {y : MethodName} {cy : ByteArray} {mx F L : Nat} {own : String} {As : (Nat → Nat → Nat) → List Value} {Q : iST → Prop} {u : iST} (hcl : y.cls = own) (hpl : plainName own = true) (hmx : ∀ ad, (lg_sl (As ad)).length ≤ mx)
    (body : ∀ {p : Program} {e : Env} {R : Room} {s : State} {m : MethodId} {args : Array Value} {below : List Frame} {meth : Method} {c : Code} {H : Heap} {locs : List Loc} {Qf : State → Prop} {ls : Array Slot} {D : va_G} {ca : Nat → ClassId} {A : Nat → Prop} {ad : Nat → Nat → Nat}, yX own p m c cy mx s args D ca ad A → F ≤ R.frames → L ≤ R.locals → (∀ (u : iST) (H : Heap) (locs : List Loc) (ls : Array Slot) (pc : Nat), Q u → yW D ca A ad s H locs u → decode cy pc = .ok (.return_, 1) → W p l e R s m args below meth c H locs 0 0 Qf (F0 m pc ls [])) → yW D ca A ad s H locs u → lv_has ls mx (lv_args 0 (As ad)) → W p l e R s m args below meth c H locs 0 0 Qf (F0 m 0 ls [])) : yMV l y (.code y cy mx none :: wsN) { frames := F, cells := 0, slots := 0, locals := L } As Q u := by
  have hy : plainName y.cls = true := by rw [hcl]; exact hpl
  intro D ca sz ad
  refine Met.ofW (cc := cy) (maxL := mx) (ret := none) hy rfl ?_
  intro p e s m args below meth c s₁ B hml hv
  obtain ⟨rfl, hsz, ⟨⟨hP, hK, hD0⟩, hR⟩, hE⟩ := hv
  have hr := B.returns
  have hts := atoms_spec (ws := _) B.pre
  have hlocks := B.notSynchronized
  subst hsz
  have hD := hD0.self (sz := s.heap.size)
  have hl := lv_entry (As ad) (n := mx) (hmx ad)
  rw [lg_entry_eq]
  have hw : yW D ca (va_A (yCl ca ad u) s.heap.size) ad s s.heap [] u := ⟨hP, hD, va_S.rf, hR, fun q h => Or.inr h⟩
  exact body ⟨⟨B.exec, B.bytes, hml, hcl ▸ findClass_of_methodNamed B.named, fun w hw => hts w (List.mem_cons_of_mem _ hw)⟩, hK, hE⟩ (Nat.le_refl _) (Nat.le_refl _) (fun u H locs ls pc hq hw d => W.vret B.exec B.bytes hr (fun t ht hW => ⟨⟨u, rfl, hq, ⟨by rw [ht]; exact hw.1, va_K.moved hW.alike hK, hw.2.1⟩, hw.2.2.2.1⟩, hw.2.2.1.F ht⟩) hw.2.2.1.2.2 d) hw hl
theorem yMR_of {l : Launch} {y : MethodName} {cy : ByteArray} {mx F L : Nat} {own : String} {As : (Nat → Nat → Nat) → List Value} {Q : Int → iST → Prop} {u : iST} (hcl : y.cls = own) (hpl : plainName own = true) (hmx : ∀ ad, (lg_sl (As ad)).length ≤ mx)
    (body : ∀ {p : Program} {e : Env} {R : Room} {s : State} {m : MethodId} {args : Array Value} {below : List Frame} {meth : Method} {c : Code} {H : Heap} {locs : List Loc} {Qf : State → Prop} {ls : Array Slot} {D : va_G} {ca : Nat → ClassId} {A : Nat → Prop} {ad : Nat → Nat → Nat}, yX own p m c cy mx s args D ca ad A → F ≤ R.frames → L ≤ R.locals → (∀ (v : Int) (u : iST) (H : Heap) (locs : List Loc) (ls : Array Slot) (pc : Nat), (0 ≤ v ∧ v < 408) → Q v u → yW D ca A ad s H locs u → decode cy pc = .ok (.areturn, 1) → W p l e R s m args below meth c H locs 0 0 Qf (F0 m pc ls [.ref (ad 4 v.toNat)])) → yW D ca A ad s H locs u → lv_has ls mx (lv_args 0 (As ad)) → W p l e R s m args below meth c H locs 0 0 Qf (F0 m 0 ls [])) : yMR l y (.code y cy mx (some (.object "ProofHouse$Clause")) :: wsN) { frames := F, cells := 0, slots := 0, locals := L } As Q u := by
  have hy : plainName y.cls = true := by rw [hcl]; exact hpl
  intro D ca sz ad
  refine Met.ofW (cc := cy) (maxL := mx) (ret := (some (.object "ProofHouse$Clause"))) hy rfl ?_
  intro p e s m args below meth c s₁ B hml hv
  obtain ⟨rfl, hsz, ⟨⟨hP, hK, hD0⟩, hR⟩, hE⟩ := hv
  have hr := B.returns
  have hts := atoms_spec (ws := _) B.pre
  have hlocks := B.notSynchronized
  subst hsz
  have hD := hD0.self (sz := s.heap.size)
  have hl := lv_entry (As ad) (n := mx) (hmx ad)
  rw [lg_entry_eq]
  have hw : yW D ca (va_A (yCl ca ad u) s.heap.size) ad s s.heap [] u := ⟨hP, hD, va_S.rf, hR, fun q h => Or.inr h⟩
  exact body ⟨⟨B.exec, B.bytes, hml, hcl ▸ findClass_of_methodNamed B.named, fun w hw => hts w (List.mem_cons_of_mem _ hw)⟩, hK, hE⟩ (Nat.le_refl _) (Nat.le_refl _) (fun v u H locs ls pc hv hq hw d => W.aret (v := .ref (ad 4 v.toNat)) B.exec B.bytes hr (Or.inl ⟨_, rfl⟩) (Or.inr ⟨_, rfl⟩) (fun t ht hW => ⟨⟨(v, u), _, rfl, ⟨hv, hq⟩, rfl, ⟨by rw [ht]; exact hw.1, va_K.moved hW.alike hK, hw.2.1⟩, hw.2.2.2.1⟩, hw.2.2.1.F ht⟩) hw.2.2.1.2.2 d) hw hl
