/-! the law: two worlds side by side, calls of both -/
theorem p_left {D : va_G} {cl : List vw_C} {a b : va_W} {H : Heap} (h : va_P D cl (a ++ b) H) : va_P D cl a H := fun k q hk => h k q (by rw [List.getElem?_append_left (List.getElem?_eq_some_iff.mp hk).1]; exact hk)
theorem at_right {a b : va_W} {k : Nat} {q : Nat × va_E} (hk : b[k]? = some q) : (a ++ b)[a.length + k]? = some q := by rw [List.getElem?_append_right (Nat.le_add_right _ _), Nat.add_sub_cancel_left]; exact hk
theorem at_left {a b : va_W} {k : Nat} {q : Nat × va_E} (hk : a[k]? = some q) : (a ++ b)[k]? = some q := by rw [List.getElem?_append_left (List.getElem?_eq_some_iff.mp hk).1]; exact hk
theorem p_right {D : va_G} {cl : List vw_C} {a b : va_W} {H : Heap} (h : va_P D cl (a ++ b) H) : va_P D cl b H := fun k q hk => h _ q (at_right hk)
theorem d_left {A : Nat → Prop} {a b : va_W} (h : va_D A (a ++ b)) : va_D A a := ⟨fun i j p q hi hj e => h.1 i j p q (at_left hi) (at_left hj) e, fun k q hk => h.2 k q (at_left hk)⟩
theorem d_right {A : Nat → Prop} {a b : va_W} (h : va_D A (a ++ b)) : va_D A b := ⟨fun i j p q hi hj e => by have h1 := h.1 _ _ p q (at_right hi) (at_right hj) e; omega, fun k q hk => h.2 _ q (at_right hk)⟩
theorem d_apart {A : Nat → Prop} {a b : va_W} (h : va_D A (a ++ b)) {i j : Nat} {x y : Nat × va_E} (hx : a[i]? = some x) (hy : b[j]? = some y) : x.1 ≠ y.1 := by
  intro e
  have h1 := h.1 _ _ x y (at_left hx) (at_right hy) e
  have h2 := (List.getElem?_eq_some_iff.mp hx).1
  omega
/-- the right world stays when the left one's cells alone have changed -/
theorem p_keepR {D : va_G} {cl : List vw_C} {A : Nat → Prop} {a b : va_W} {H H1 : Heap} (hP : va_P D cl (a ++ b) H) (hD : va_D A (a ++ b)) (hk : ∀ q : Nat, q < H.size → ¬ va_A a H.size q → H1[q]? = H[q]?) : va_P D cl b H1 := by
  intro k q hq
  have h1 := hP _ _ (at_right (a := a) hq)
  refine h1.kept (hk q.1 h1.lt (fun h => ?_))
  rcases h with ⟨k2, e, h⟩ | h
  · exact d_apart hD h hq rfl
  · have := h1.lt
    omega
/-- the left world stays when the right one's cells alone have changed; what came stands beside it -/
theorem p_join {D : va_G} {cl : List vw_C} {A : Nat → Prop} {a b w1 : va_W} {H H1 : Heap} (hP : va_P D cl (a ++ b) H) (hD : va_D A (a ++ b)) (hk : ∀ q : Nat, q < H.size → ¬ va_A b H.size q → H1[q]? = H[q]?) (hF : ∀ q, va_A b H.size q → A q) (hP1 : va_P D cl w1 H1) (hD1 : va_D (va_A b H.size) w1) : va_P D cl (a ++ w1) H1 ∧ va_D A (a ++ w1) := by
  have apart : ∀ (k : Nat) (q : Nat × va_E), a[k]? = some q → q.1 < H.size ∧ ¬ va_A b H.size q.1 := by
    intro k q hq
    have h1 := (hP _ _ (at_left (b := b) hq)).lt
    refine ⟨h1, fun h => ?_⟩
    rcases h with ⟨k2, e, h⟩ | h
    · exact d_apart hD hq h rfl
    · omega
  refine ⟨va_P.app (fun k q hq => ?_) hP1, va_D.app (d_left hD) (hD1.weaken (fun k q _ h => hF q.1 h)) (fun i j x y hx hy hxy => ?_)⟩
  · exact (hP _ _ (at_left hq)).kept (hk q.1 (apart k q hq).1 (apart k q hq).2)
  · exact (apart i x hx).2 (by rw [hxy]; exact hD1.2 j y hy)
theorem k_leftK {D : va_G} {cl : List vw_C} {a b : List (ClassId × FieldType)} {U : State} (h : va_K D cl (a ++ b) U) : va_K D cl a U := ⟨h.1, fun k q hk => h.2 k q (by rw [List.getElem?_append_left (List.getElem?_eq_some_iff.mp hk).1]; exact hk)⟩
theorem k_right {D : va_G} {cl : List vw_C} {a b : List (ClassId × FieldType)} {U : State} (h : va_K D cl (a ++ b) U) : va_K D cl b U := ⟨h.1, fun k q hk => h.2 (a.length + k) q (by rw [List.getElem?_append_right (Nat.le_add_right _ _), Nat.add_sub_cancel_left]; exact hk)⟩
/-- the right world stays; what the left one has become stands beside it -/
theorem p_joinL {D : va_G} {cl : List vw_C} {A : Nat → Prop} {a b w1 : va_W} {H H1 : Heap} (hP : va_P D cl (a ++ b) H) (hD : va_D A (a ++ b)) (hk : ∀ q : Nat, q < H.size → ¬ va_A a H.size q → H1[q]? = H[q]?) (hF : ∀ q, va_A a H.size q → A q) (hP1 : va_P D cl w1 H1) (hD1 : va_D (va_A a H.size) w1) : va_P D cl (w1 ++ b) H1 ∧ va_D A (w1 ++ b) := by
  have apart : ∀ (k : Nat) (q : Nat × va_E), b[k]? = some q → q.1 < H.size ∧ ¬ va_A a H.size q.1 := by
    intro k q hq
    have h1 := (hP _ _ (at_right (a := a) hq)).lt
    refine ⟨h1, fun h => ?_⟩
    rcases h with ⟨k2, e, h⟩ | h
    · exact d_apart hD h hq rfl
    · omega
  refine ⟨va_P.app hP1 (fun k q hq => ?_), va_D.app (hD1.weaken (fun k q _ h => hF q.1 h)) (d_right hD) (fun i j x y hx hy hxy => ?_)⟩
  · exact (hP _ _ (at_right (a := a) hq)).kept (hk q.1 (apart k q hq).1 (apart k q hq).2)
  · exact (apart j y hy).2 (by rw [← hxy]; exact hD1.2 i x hx)
theorem hN.same {u U : State} (h : u.vm = U.vm) (q : hN u) : hN U := ⟨va_AO.moved (by rw [h]; exact Vm.Alike.refl _) q.1, pAI.moved (by rw [h]; exact Vm.Alike.refl _) q.2.1, va_Nw.same rfl h q.2.2.1, va_Nw.same rfl h q.2.2.2.1, va_Nw.same rfl h q.2.2.2.2⟩
theorem hN.warm {s U : State} (h : s.WarmedH U.vm) (q : hN s) : hN U := ⟨va_AO.moved h.alike q.1, pAI.moved h.alike q.2.1, va_Nw.warmM h q.2.2.1, va_Nw.warmM h q.2.2.2.1, va_Nw.warmF h q.2.2.2.2⟩
theorem hStr.same {adK : Nat → Nat} {u U : State} (h : U.vm = u.vm) (q : hStr adK u) : hStr adK U := ⟨vk_R.same h q.1, vk_R.same h q.2⟩
theorem hStr.warm {adK : Nat → Nat} {s U : State} (h : s.WarmedH U.vm) (q : hStr adK s) : hStr adK U := ⟨vk_R.warm h q.1, vk_R.warm h q.2⟩
/-- both worlds, and what the tables say of them -/
def LWd (D : va_G) (ca : Nat → ClassId) (ad : Nat → Nat → Nat) (ca2 : Nat → ClassId) (q2 : Nat) (ad2 : Nat → Nat) (A : Nat → Prop) (s : State) (H : Heap) (locs : List Loc) (v w : iST) : Prop := va_P D vwCl (yCl ca ad v ++ mCl ca2 q2 ad2 (toM w)) H ∧ va_D A (yCl ca ad v ++ mCl ca2 q2 ad2 (toM w)) ∧ va_S A s.heap H locs ∧ yR v ∧ iR w ∧ va_K D vwCl (yTy ca) s ∧ va_K D vwCl (mTy ca2) s ∧ yE ad A s s.heap ∧ ∀ q : Nat, s.heap.size ≤ q → A q
section
variable {s : State} {H : Heap} {locs : List Loc} {D : va_G} {ca ca2 : Nat → ClassId} {A : Nat → Prop} {ad : Nat → Nat → Nat} {q2 : Nat} {ad2 : Nat → Nat} {v w : iST}
theorem LWd.cP (h : LWd D ca ad ca2 q2 ad2 A s H locs v w) : va_P D vwCl (yCl ca ad v ++ mCl ca2 q2 ad2 (toM w)) H := h.1
theorem LWd.cD (h : LWd D ca ad ca2 q2 ad2 A s H locs v w) : va_D A (yCl ca ad v ++ mCl ca2 q2 ad2 (toM w)) := h.2.1
theorem LWd.cS (h : LWd D ca ad ca2 q2 ad2 A s H locs v w) : va_S A s.heap H locs := h.2.2.1
theorem LWd.cR (h : LWd D ca ad ca2 q2 ad2 A s H locs v w) : yR v := h.2.2.2.1
theorem LWd.cr (h : LWd D ca ad ca2 q2 ad2 A s H locs v w) : iR w := h.2.2.2.2.1
theorem LWd.cK (h : LWd D ca ad ca2 q2 ad2 A s H locs v w) : va_K D vwCl (yTy ca) s := h.2.2.2.2.2.1
theorem LWd.ck (h : LWd D ca ad ca2 q2 ad2 A s H locs v w) : va_K D vwCl (mTy ca2) s := h.2.2.2.2.2.2.1
theorem LWd.cE (h : LWd D ca ad ca2 q2 ad2 A s H locs v w) : yE ad A s s.heap := h.2.2.2.2.2.2.2.1
theorem LWd.cA (h : LWd D ca ad ca2 q2 ad2 A s H locs v w) : ∀ q : Nat, s.heap.size ≤ q → A q := h.2.2.2.2.2.2.2.2
end
section
variable {p : Program} {l : Launch} {e : Env} {R : Room} {s : State} {m : MethodId} {args : Array Value} {below : List Frame} {meth : Method} {c : Code} {H : Heap} {locs : List Loc} {Q : State → Prop} {cells slots : Nat}
variable {cc : ByteArray} {pc nL : Nat} {ls : Array Slot} {rest : List Value} {D : va_G} {ca ca2 : Nat → ClassId} {A : Nat → Prop} {ad : Nat → Nat → Nat} {q2 : Nat} {ad2 : Nat → Nat} {v w : iST}
theorem LWd.free (W0 : LWd D ca ad ca2 q2 ad2 A s H locs v w) : ∀ q, va_A (yCl ca ad v) H.size q → A q := pl_free (d_left W0.cD) W0.cS W0.cA
theorem LWd.freeR (W0 : LWd D ca ad ca2 q2 ad2 A s H locs v w) : ∀ q, va_A (mCl ca2 q2 ad2 (toM w)) H.size q → A q := pl_free (d_right W0.cD) W0.cS W0.cA
theorem LWd.pre {U : State} (W0 : LWd D ca ad ca2 q2 ad2 A s H locs v w) (hU : U.heap = H) (hW : s.WarmedH U.vm) : yPre D ca ad v H.size U := by
  subst hU
  exact ⟨rfl, ⟨⟨p_left W0.cP, va_K.moved hW.alike W0.cK, (d_left W0.cD).weaken (fun _ _ _ _ => trivial)⟩, W0.cR⟩, yE.start W0.cE hW W0.cS W0.free⟩
theorem LWd.left {A1 : Nat → Prop} {t : State} {H1 : Heap} {locs1 : List Loc} {v1 : iST} (W0 : LWd D ca ad ca2 q2 ad2 A s H locs v w) (hA1 : A1 = va_A (yCl ca ad v) H.size) (ht : t.heap = H1) (hB : yWd D ca A1 ad v1 t) (hk : ∀ q : Nat, q < H.size → ¬ A1 q → H1[q]? = H[q]?) (hS : va_S A s.heap H1 locs1) : LWd D ca ad ca2 q2 ad2 A s H1 locs1 v1 w := by
  obtain ⟨⟨hP1, -, hD1⟩, hR⟩ := hB
  subst hA1
  rw [ht] at hP1
  obtain ⟨a, b⟩ := p_joinL W0.cP W0.cD hk W0.free hP1 hD1
  exact ⟨a, b, hS, hR, W0.cr, W0.cK, W0.ck, W0.cE, W0.cA⟩
theorem LWd.right {A1 : Nat → Prop} {t : State} {H1 : Heap} {locs1 : List Loc} {w1 : iST} (W0 : LWd D ca ad ca2 q2 ad2 A s H locs v w) (hA1 : A1 = va_A (mCl ca2 q2 ad2 (toM w)) H.size) (ht : t.heap = H1) (hB : iWd D ca2 A1 q2 ad2 w1 t) (hk : ∀ q : Nat, q < H.size → ¬ A1 q → H1[q]? = H[q]?) (hS : va_S A s.heap H1 locs1) : LWd D ca ad ca2 q2 ad2 A s H1 locs1 v w1 := by
  obtain ⟨⟨hP1, -, hD1⟩, hR⟩ := hB
  subst hA1
  rw [ht] at hP1
  obtain ⟨a, b⟩ := p_join W0.cP W0.cD hk W0.freeR hP1 hD1
  exact ⟨a, b, hS, W0.cR, hR, W0.cK, W0.ck, W0.cE, W0.cA⟩
/-- a call of the class's -/
theorem lcI {y : MethodName} {cy : ByteArray} {mx : Nat} {ret : Option FieldType} {Fy Ly idx n : Nat} {As : (Nat → Nat → Nat) → List Value} {K : Int → iST → Prop} (hM : yMI l y (.code y cy mx ret :: wsN) { frames := Fy, cells := 0, slots := 0, locals := Ly } As K v) {A1 : List Value} (hA : As ad = .ref (ad 0 9) :: A1) (hG : GoodIn lw_tbl (wsV "ProofHouseLaw" idx RX11 y (.code y cy mx ret :: wsN))) (hd : y.cls = RX11 ∧ y.cls ≠ "java/lang/invoke/MethodHandle" ∧ y.cls ≠ "java/lang/invoke/VarHandle" ∧ (parseMethodDescriptor y.desc).map (fun d => d.parameters.length) = some n) (F : CallFix p m c cc nL s args lw_tbl "ProofHouseLaw") (W0 : LWd D ca ad ca2 q2 ad2 A s H locs v w) (hRf : Fy + 1 ≤ R.frames) (hRl : 8 + (mx + 11) + Ly ≤ R.locals) (hc : cells ≤ R.cells) (hs : slots ≤ R.slots) (hn : A1.length = n) (hls : ls.size = nL) (hst : (rest.map fun v => v.category).sum ≤ 8) {st : List Value} (hsk : st = A1.reverse ++ .ref (ad 0 9) :: rest) (d : decode cc pc = .ok (.invokevirtual idx, 3))
    (kk : ∀ (r : Int) (v1 : iST) (H : Heap) (locs : List Loc), inR r → K r v1 → LWd D ca ad ca2 q2 ad2 A s H locs v1 w → W p l e R s m args below meth c H locs cells slots Q (F0 m (pc + 3) ls (.int (jI r) :: rest))) : W p l e R s m args below meth c H locs cells slots Q (F0 m pc ls st) := by
  subst hsk
  have hM2 := hM D ca H.size ad
  rw [hA] at hM2
  refine va_calli (va_runV (rest := rest) F hM2 (cwV n F.2.2.2.2 hG rfl rfl rfl hd ⟨hRf, hRl⟩) ⟨yblind, va_recv W0.cK (p_left W0.cP) (ci := 11) (q0 := 9) rfl yGo_11, fun U hU hW => ⟨rfl, W0.pre hU hW⟩⟩ rfl hn hls rfl (lv_room hst) d ⟨hc, hs⟩) W0.cS (fun q _ h => W0.free q h) W0.free (fun r v1 t H1 locs1 ht hvm hp hB hz1 hk1 hS => ?_)
  obtain ⟨x, rfl, hx, hK⟩ := hp
  exact kk x v1 H1 locs1 hx hK (W0.left rfl ht hB hk1 hS)
theorem lcV {y : MethodName} {cy : ByteArray} {mx : Nat} {ret : Option FieldType} {Fy Ly idx n : Nat} {As : (Nat → Nat → Nat) → List Value} {K : iST → Prop} (hM : yMV l y (.code y cy mx ret :: wsN) { frames := Fy, cells := 0, slots := 0, locals := Ly } As K v) {A1 : List Value} (hA : As ad = .ref (ad 0 9) :: A1) (hG : GoodIn lw_tbl (wsV "ProofHouseLaw" idx RX11 y (.code y cy mx ret :: wsN))) (hd : y.cls = RX11 ∧ y.cls ≠ "java/lang/invoke/MethodHandle" ∧ y.cls ≠ "java/lang/invoke/VarHandle" ∧ (parseMethodDescriptor y.desc).map (fun d => d.parameters.length) = some n) (F : CallFix p m c cc nL s args lw_tbl "ProofHouseLaw") (W0 : LWd D ca ad ca2 q2 ad2 A s H locs v w) (hRf : Fy + 1 ≤ R.frames) (hRl : 8 + (mx + 11) + Ly ≤ R.locals) (hc : cells ≤ R.cells) (hs : slots ≤ R.slots) (hn : A1.length = n) (hls : ls.size = nL) (hst : (rest.map fun v => v.category).sum ≤ 8) {st : List Value} (hsk : st = A1.reverse ++ .ref (ad 0 9) :: rest) (d : decode cc pc = .ok (.invokevirtual idx, 3))
    (kk : ∀ (v1 : iST) (H : Heap) (locs : List Loc), K v1 → LWd D ca ad ca2 q2 ad2 A s H locs v1 w → W p l e R s m args below meth c H locs cells slots Q (F0 m (pc + 3) ls rest)) : W p l e R s m args below meth c H locs cells slots Q (F0 m pc ls st) := by
  subst hsk
  have hM2 := hM D ca H.size ad
  rw [hA] at hM2
  refine va_callv (va_runV (rest := rest) F hM2 (cwV n F.2.2.2.2 hG rfl rfl rfl hd ⟨hRf, hRl⟩) ⟨yblind, va_recv W0.cK (p_left W0.cP) (ci := 11) (q0 := 9) rfl yGo_11, fun U hU hW => ⟨rfl, W0.pre hU hW⟩⟩ rfl hn hls rfl (lv_room hst) d ⟨hc, hs⟩) W0.cS (fun q _ h => W0.free q h) W0.free (fun v1 t H1 locs1 ht hvm hp hB hz1 hk1 hS => ?_)
  exact kk v1 H1 locs1 hp (W0.left rfl ht hB hk1 hS)
/-- a call of the reference's -/
theorem lmI {y : MethodName} {cy : ByteArray} {mx : Nat} {ret : Option FieldType} {Fy Ly idx n : Nat} {As : List Value} {K : Int → iST → Prop} (hM : kMI l y (.code y cy mx ret :: wsM) { frames := Fy, cells := 0, slots := 0, locals := Ly } As K w) (hG : GoodIn lw_tbl (wsV "ProofHouseLaw" idx RX12 y (.code y cy mx ret :: wsM))) (hd : y.cls = RX12 ∧ y.cls ≠ "java/lang/invoke/MethodHandle" ∧ y.cls ≠ "java/lang/invoke/VarHandle" ∧ (parseMethodDescriptor y.desc).map (fun d => d.parameters.length) = some n) (F : CallFix p m c cc nL s args lw_tbl "ProofHouseLaw") (W0 : LWd D ca ad ca2 q2 ad2 A s H locs v w) (hRf : Fy + 1 ≤ R.frames) (hRl : 8 + (mx + 11) + Ly ≤ R.locals) (hc : cells ≤ R.cells) (hs : slots ≤ R.slots) (hn : As.length = n) (hls : ls.size = nL) (hst : (rest.map fun v => v.category).sum ≤ 8) {st : List Value} (hsk : st = As.reverse ++ .ref q2 :: rest) (d : decode cc pc = .ok (.invokevirtual idx, 3))
    (kk : ∀ (r : Int) (w1 : iST) (H : Heap) (locs : List Loc), inR r → K r w1 → LWd D ca ad ca2 q2 ad2 A s H locs v w1 → W p l e R s m args below meth c H locs cells slots Q (F0 m (pc + 3) ls (.int (jI r) :: rest))) : W p l e R s m args below meth c H locs cells slots Q (F0 m pc ls st) := by
  subst hsk
  refine va_calli (va_runV (rest := rest) F (hM D ca2 q2 H.size ad2) (cwV n F.2.2.2.2 hG rfl rfl rfl hd ⟨hRf, hRl⟩) ⟨kblind, va_recv W0.ck (p_right W0.cP) (ci := 12) (q0 := 0) rfl mH_0, fun U hU hW => ⟨rfl, by rw [hU], ⟨by rw [hU]; exact p_right W0.cP, va_K.moved hW.alike W0.ck, (d_right W0.cD).weaken (fun _ _ _ _ => trivial)⟩, W0.cr⟩⟩ rfl hn hls rfl (lv_room hst) d ⟨hc, hs⟩) W0.cS (fun q _ h => W0.freeR q h) W0.freeR (fun r w1 t H1 locs1 ht hvm hp hB hz1 hk1 hS => ?_)
  obtain ⟨x, rfl, hx, hK⟩ := hp
  exact kk x w1 H1 locs1 hx hK (W0.right rfl ht hB hk1 hS)
theorem lmV {y : MethodName} {cy : ByteArray} {mx : Nat} {ret : Option FieldType} {Fy Ly idx n : Nat} {As : List Value} {K : iST → Prop} (hM : kMV l y (.code y cy mx ret :: wsM) { frames := Fy, cells := 0, slots := 0, locals := Ly } As K w) (hG : GoodIn lw_tbl (wsV "ProofHouseLaw" idx RX12 y (.code y cy mx ret :: wsM))) (hd : y.cls = RX12 ∧ y.cls ≠ "java/lang/invoke/MethodHandle" ∧ y.cls ≠ "java/lang/invoke/VarHandle" ∧ (parseMethodDescriptor y.desc).map (fun d => d.parameters.length) = some n) (F : CallFix p m c cc nL s args lw_tbl "ProofHouseLaw") (W0 : LWd D ca ad ca2 q2 ad2 A s H locs v w) (hRf : Fy + 1 ≤ R.frames) (hRl : 8 + (mx + 11) + Ly ≤ R.locals) (hc : cells ≤ R.cells) (hs : slots ≤ R.slots) (hn : As.length = n) (hls : ls.size = nL) (hst : (rest.map fun v => v.category).sum ≤ 8) {st : List Value} (hsk : st = As.reverse ++ .ref q2 :: rest) (d : decode cc pc = .ok (.invokevirtual idx, 3))
    (kk : ∀ (w1 : iST) (H : Heap) (locs : List Loc), K w1 → LWd D ca ad ca2 q2 ad2 A s H locs v w1 → W p l e R s m args below meth c H locs cells slots Q (F0 m (pc + 3) ls rest)) : W p l e R s m args below meth c H locs cells slots Q (F0 m pc ls st) := by
  subst hsk
  refine va_callv (va_runV (rest := rest) F (hM D ca2 q2 H.size ad2) (cwV n F.2.2.2.2 hG rfl rfl rfl hd ⟨hRf, hRl⟩) ⟨kblind, va_recv W0.ck (p_right W0.cP) (ci := 12) (q0 := 0) rfl mH_0, fun U hU hW => ⟨rfl, by rw [hU], ⟨by rw [hU]; exact p_right W0.cP, va_K.moved hW.alike W0.ck, (d_right W0.cD).weaken (fun _ _ _ _ => trivial)⟩, W0.cr⟩⟩ rfl hn hls rfl (lv_room hst) d ⟨hc, hs⟩) W0.cS (fun q _ h => W0.freeR q h) W0.freeR (fun w1 t H1 locs1 ht hvm hp hB hz1 hk1 hS => ?_)
  exact kk w1 H1 locs1 hp (W0.right rfl ht hB hk1 hS)
end
