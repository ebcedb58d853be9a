theorem br_sp {c P1 P2 G : Prop} (h : br c P1 P2) (k1 : c → P1 → G) (k2 : ¬ c → P2 → G) : G := by
  by_cases hc : c
  · exact k1 hc (h.1 hc)
  · exact k2 hc (h.2 hc)
section
variable {p : Program} {l : Launch} {e : Env} {R : Room} {s : State} {m : MethodId} {args : Array Value} {below : List Frame} {meth : Method} {c : Code} {H : Heap} {locs : List Loc} {cells slots : Nat} {Q : State → Prop}
variable {cc : ByteArray} {pc : Nat} {ls : Array Slot} {rest : List Value}
theorem k_tabIn (hx : p.tables.exec = Jvm.exec) (hb : c.code = cc) {x kv dflt lo hi off : Int} {offs : Array Int} {len tgt : Nat} (d : decode cc pc = .ok (.tableswitch dflt lo hi offs, len)) (ek : x = kv) (hk : inR kv) (h1 : lo ≤ kv ∧ kv ≤ hi) (ho : offs[(kv - lo).toNat]? = some off) (ht : (pc : Int) + off = (tgt : Int)) (k : W p l e R s m args below meth c H locs cells slots Q (F0 m tgt ls rest)) : W p l e R s m args below meth c H locs cells slots Q (F0 m pc ls (.int (jI x) :: rest)) := by
  subst ek
  exact lv_tableIn hx hb d (by rw [jI_toInt hk]; omega) (by rw [jI_toInt hk]; omega) (by rw [jI_toInt hk]; exact ho) ht k
theorem k_tabOut (hx : p.tables.exec = Jvm.exec) (hb : c.code = cc) {x dflt lo hi : Int} (rx : inR x) {offs : Array Int} {len tgt : Nat} (d : decode cc pc = .ok (.tableswitch dflt lo hi offs, len)) (h : x < lo ∨ hi < x) (ht : (pc : Int) + dflt = (tgt : Int)) (k : W p l e R s m args below meth c H locs cells slots Q (F0 m tgt ls rest)) : W p l e R s m args below meth c H locs cells slots Q (F0 m pc ls (.int (jI x) :: rest)) := lv_tableOut hx hb d (by rw [jI_toInt rx]; exact h) ht k
theorem k_lokIn (hx : p.tables.exec = Jvm.exec) (hb : c.code = cc) {x kv dflt off : Int} {ps : Array (Int × Int)} {len tgt : Nat} (d : decode cc pc = .ok (.lookupswitch dflt ps, len)) (ek : x = kv) (hk : inR kv) (hp : (ps.toList.zip (ps.toList.drop 1)).all (fun (a, next) => a.1 < next.1) = true) (ho : Op.lookupswitch.offset ps.toList dflt kv = off) (ht : (pc : Int) + off = (tgt : Int)) (k : W p l e R s m args below meth c H locs cells slots Q (F0 m tgt ls rest)) : W p l e R s m args below meth c H locs cells slots Q (F0 m pc ls (.int (jI x) :: rest)) := by
  subst ek
  exact lv_lookup hx hb d hp (by rw [jI_toInt hk]; exact ho) ht k
theorem k_lokOut (hx : p.tables.exec = Jvm.exec) (hb : c.code = cc) {x dflt : Int} (rx : inR x) {ps : Array (Int × Int)} {len tgt : Nat} (d : decode cc pc = .ok (.lookupswitch dflt ps, len)) (hp : (ps.toList.zip (ps.toList.drop 1)).all (fun (a, next) => a.1 < next.1) = true) (ho : Op.lookupswitch.offset ps.toList dflt x = dflt) (ht : (pc : Int) + dflt = (tgt : Int)) (k : W p l e R s m args below meth c H locs cells slots Q (F0 m tgt ls rest)) : W p l e R s m args below meth c H locs cells slots Q (F0 m pc ls (.int (jI x) :: rest)) := lv_lookup hx hb d hp (by rw [jI_toInt rx]; exact ho) ht k
end
theorem kMI_of {l : Launch} {y : MethodName} {cy : ByteArray} {mx F L : Nat} {As : List Value} {Q : Int → iST → Prop} {u : iST} (hcl : y.cls = RX12) (hmx : ∀ h0 : Nat, (lg_sl (.ref h0 :: As)).length ≤ mx)
    (body : ∀ {p : Program} {e : Env} {R : Room} {s : State} {m : MethodId} {args : Array Value} {below : List Frame} {meth : Method} {c : Code} {H : Heap} {locs : List Loc} {Qf : State → Prop} {ls : Array Slot} {D : va_G} {ca : Nat → ClassId} {A : Nat → Prop} {h0 : Nat} {ad : Nat → Nat} {H0 : Heap}, kX p m c cy mx s args D ca → F ≤ R.frames → L ≤ R.locals → (∀ (v : Int) (u : iST) (H : Heap) (locs : List Loc) (ls : Array Slot) (pc : Nat), inR v → Q v u → kW D ca A h0 ad H0 H locs u → decode cy pc = .ok (.ireturn, 1) → W p l e R s m args below meth c H locs 0 0 Qf (F0 m pc ls [.int (jI v)])) → kW D ca A h0 ad H0 H locs u → lv_has ls mx (lv_args 0 (.ref h0 :: As)) → W p l e R s m args below meth c H locs 0 0 Qf (F0 m 0 ls [])) : kMI l y (.code y cy mx (some .int) :: wsM) { frames := F, cells := 0, slots := 0, locals := L } As Q u := by
  have hy : plainName y.cls = true := by rw [hcl]; decide +kernel
  intro D ca h0 sz ad
  refine Met.ofW (cc := cy) (maxL := mx) (ret := (some .int)) hy rfl ?_
  intro p e s m args below meth c s₁ B hml hv
  obtain ⟨rfl, hsz, ⟨hP, hK, hD0⟩, hR⟩ := hv
  have hr := B.returns
  have hts := atoms_spec (ws := _) B.pre
  have hlocks := B.notSynchronized
  subst hsz
  have hD := hD0.self (sz := s.heap.size)
  have hl := lv_entry (.ref h0 :: As) (n := mx) (hmx h0)
  rw [lg_entry_eq]
  have hw : kW D ca (va_A (mCl ca h0 ad (toM u)) s.heap.size) h0 ad s.heap s.heap [] u := ⟨hP, hD, va_S.rf, hR, fun q h => Or.inr h⟩
  exact body ⟨⟨B.exec, B.bytes, hml, hcl ▸ findClass_of_methodNamed B.named, fun w hw => hts w (List.mem_cons_of_mem _ hw)⟩, hK⟩ (Nat.le_refl _) (Nat.le_refl _) (fun v u H locs ls pc hv hq hw d => W.iret (v := jI v) B.exec B.bytes hr (fun t ht hW => ⟨⟨jI v, u, rfl, ⟨v, rfl, hv, hq⟩, ⟨by rw [ht]; exact hw.1, va_K.moved hW.alike hK, hw.2.1⟩, hw.2.2.2.1⟩, hw.2.2.1.F ht⟩) hw.2.2.1.2.2 d) hw hl
theorem kMZ_of {l : Launch} {y : MethodName} {cy : ByteArray} {mx F L : Nat} {As : List Value} {Q : Int → iST → Prop} {u : iST} (hcl : y.cls = RX12) (hmx : ∀ h0 : Nat, (lg_sl (.ref h0 :: As)).length ≤ mx)
    (body : ∀ {p : Program} {e : Env} {R : Room} {s : State} {m : MethodId} {args : Array Value} {below : List Frame} {meth : Method} {c : Code} {H : Heap} {locs : List Loc} {Qf : State → Prop} {ls : Array Slot} {D : va_G} {ca : Nat → ClassId} {A : Nat → Prop} {h0 : Nat} {ad : Nat → Nat} {H0 : Heap}, kX p m c cy mx s args D ca → F ≤ R.frames → L ≤ R.locals → (∀ (v : Int) (u : iST) (H : Heap) (locs : List Loc) (ls : Array Slot) (pc : Nat), bz v → Q v u → kW D ca A h0 ad H0 H locs u → decode cy pc = .ok (.ireturn, 1) → W p l e R s m args below meth c H locs 0 0 Qf (F0 m pc ls [.int (jI v)])) → kW D ca A h0 ad H0 H locs u → lv_has ls mx (lv_args 0 (.ref h0 :: As)) → W p l e R s m args below meth c H locs 0 0 Qf (F0 m 0 ls [])) : kMI l y (.code y cy mx (some .boolean) :: wsM) { frames := F, cells := 0, slots := 0, locals := L } As Q u := by
  have hy : plainName y.cls = true := by rw [hcl]; decide +kernel
  intro D ca h0 sz ad
  refine Met.ofW (cc := cy) (maxL := mx) (ret := (some .boolean)) hy rfl ?_
  intro p e s m args below meth c s₁ B hml hv
  obtain ⟨rfl, hsz, ⟨hP, hK, hD0⟩, hR⟩ := hv
  have hr := B.returns
  have hts := atoms_spec (ws := _) B.pre
  have hlocks := B.notSynchronized
  subst hsz
  have hD := hD0.self (sz := s.heap.size)
  have hl := lv_entry (.ref h0 :: As) (n := mx) (hmx h0)
  rw [lg_entry_eq]
  have hw : kW D ca (va_A (mCl ca h0 ad (toM u)) s.heap.size) h0 ad s.heap s.heap [] u := ⟨hP, hD, va_S.rf, hR, fun q h => Or.inr h⟩
  exact body ⟨⟨B.exec, B.bytes, hml, hcl ▸ findClass_of_methodNamed B.named, fun w hw => hts w (List.mem_cons_of_mem _ hw)⟩, hK⟩ (Nat.le_refl _) (Nat.le_refl _) (fun v u H locs ls pc hv hq hw d => W.zret (v := jI v) B.exec B.bytes hr (bz_nar hv) (fun t ht hW => ⟨⟨jI v, u, rfl, ⟨v, rfl, bz_in hv, hq⟩, ⟨by rw [ht]; exact hw.1, va_K.moved hW.alike hK, hw.2.1⟩, hw.2.2.2.1⟩, hw.2.2.1.F ht⟩) hw.2.2.1.2.2 d) hw hl
theorem kML_of {l : Launch} {y : MethodName} {cy : ByteArray} {mx F L : Nat} {As : List Value} {Q : Int → iST → Prop} {u : iST} (hcl : y.cls = RX12) (hmx : ∀ h0 : Nat, (lg_sl (.ref h0 :: As)).length ≤ mx)
    (body : ∀ {p : Program} {e : Env} {R : Room} {s : State} {m : MethodId} {args : Array Value} {below : List Frame} {meth : Method} {c : Code} {H : Heap} {locs : List Loc} {Qf : State → Prop} {ls : Array Slot} {D : va_G} {ca : Nat → ClassId} {A : Nat → Prop} {h0 : Nat} {ad : Nat → Nat} {H0 : Heap}, kX p m c cy mx s args D ca → F ≤ R.frames → L ≤ R.locals → (∀ (v : Int) (u : iST) (H : Heap) (locs : List Loc) (ls : Array Slot) (pc : Nat), inL v → Q v u → kW D ca A h0 ad H0 H locs u → decode cy pc = .ok (.lreturn, 1) → W p l e R s m args below meth c H locs 0 0 Qf (F0 m pc ls [.long (jL v)])) → kW D ca A h0 ad H0 H locs u → lv_has ls mx (lv_args 0 (.ref h0 :: As)) → W p l e R s m args below meth c H locs 0 0 Qf (F0 m 0 ls [])) : kML l y (.code y cy mx (some .long) :: wsM) { frames := F, cells := 0, slots := 0, locals := L } As Q u := by
  have hy : plainName y.cls = true := by rw [hcl]; decide +kernel
  intro D ca h0 sz ad
  refine Met.ofW (cc := cy) (maxL := mx) (ret := (some .long)) hy rfl ?_
  intro p e s m args below meth c s₁ B hml hv
  obtain ⟨rfl, hsz, ⟨hP, hK, hD0⟩, hR⟩ := hv
  have hr := B.returns
  have hts := atoms_spec (ws := _) B.pre
  have hlocks := B.notSynchronized
  subst hsz
  have hD := hD0.self (sz := s.heap.size)
  have hl := lv_entry (.ref h0 :: As) (n := mx) (hmx h0)
  rw [lg_entry_eq]
  have hw : kW D ca (va_A (mCl ca h0 ad (toM u)) s.heap.size) h0 ad s.heap s.heap [] u := ⟨hP, hD, va_S.rf, hR, fun q h => Or.inr h⟩
  exact body ⟨⟨B.exec, B.bytes, hml, hcl ▸ findClass_of_methodNamed B.named, fun w hw => hts w (List.mem_cons_of_mem _ hw)⟩, hK⟩ (Nat.le_refl _) (Nat.le_refl _) (fun v u H locs ls pc hv hq hw d => W.lret (v := jL v) B.exec B.bytes hr (fun t ht hW => ⟨⟨jL v, u, rfl, ⟨v, rfl, hv, hq⟩, ⟨by rw [ht]; exact hw.1, va_K.moved hW.alike hK, hw.2.1⟩, hw.2.2.2.1⟩, hw.2.2.1.F ht⟩) hw.2.2.1.2.2 d) hw hl
theorem kMV_of {l : Launch} {y : MethodName} {cy : ByteArray} {mx F L : Nat} {As : List Value} {Q : iST → Prop} {u : iST} (hcl : y.cls = RX12) (hmx : ∀ h0 : Nat, (lg_sl (.ref h0 :: As)).length ≤ mx)
    (body : ∀ {p : Program} {e : Env} {R : Room} {s : State} {m : MethodId} {args : Array Value} {below : List Frame} {meth : Method} {c : Code} {H : Heap} {locs : List Loc} {Qf : State → Prop} {ls : Array Slot} {D : va_G} {ca : Nat → ClassId} {A : Nat → Prop} {h0 : Nat} {ad : Nat → Nat} {H0 : Heap}, kX p m c cy mx s args D ca → F ≤ R.frames → L ≤ R.locals → (∀ (u : iST) (H : Heap) (locs : List Loc) (ls : Array Slot) (pc : Nat), Q u → kW D ca A h0 ad H0 H locs u → decode cy pc = .ok (.return_, 1) → W p l e R s m args below meth c H locs 0 0 Qf (F0 m pc ls [])) → kW D ca A h0 ad H0 H locs u → lv_has ls mx (lv_args 0 (.ref h0 :: As)) → W p l e R s m args below meth c H locs 0 0 Qf (F0 m 0 ls [])) : kMV l y (.code y cy mx (none) :: wsM) { frames := F, cells := 0, slots := 0, locals := L } As Q u := by
  have hy : plainName y.cls = true := by rw [hcl]; decide +kernel
  intro D ca h0 sz ad
  refine Met.ofW (cc := cy) (maxL := mx) (ret := (none)) hy rfl ?_
  intro p e s m args below meth c s₁ B hml hv
  obtain ⟨rfl, hsz, ⟨hP, hK, hD0⟩, hR⟩ := hv
  have hr := B.returns
  have hts := atoms_spec (ws := _) B.pre
  have hlocks := B.notSynchronized
  subst hsz
  have hD := hD0.self (sz := s.heap.size)
  have hl := lv_entry (.ref h0 :: As) (n := mx) (hmx h0)
  rw [lg_entry_eq]
  have hw : kW D ca (va_A (mCl ca h0 ad (toM u)) s.heap.size) h0 ad s.heap s.heap [] u := ⟨hP, hD, va_S.rf, hR, fun q h => Or.inr h⟩
  exact body ⟨⟨B.exec, B.bytes, hml, hcl ▸ findClass_of_methodNamed B.named, fun w hw => hts w (List.mem_cons_of_mem _ hw)⟩, hK⟩ (Nat.le_refl _) (Nat.le_refl _) (fun u H locs ls pc hq hw d => W.vret B.exec B.bytes hr (fun t ht hW => ⟨⟨u, rfl, hq, ⟨by rw [ht]; exact hw.1, va_K.moved hW.alike hK, hw.2.1⟩, hw.2.2.2.1⟩, hw.2.2.1.F ht⟩) hw.2.2.1.2.2 d) hw hl
theorem kSI_of {l : Launch} {y : MethodName} {cy : ByteArray} {mx F L : Nat} {As : List Value} {Q : Int → iST → Prop} {u : iST} (hcl : y.cls = RX12) (hmx : ∀ h0 : Nat, (lg_sl (As)).length ≤ mx)
    (body : ∀ {p : Program} {e : Env} {R : Room} {s : State} {m : MethodId} {args : Array Value} {below : List Frame} {meth : Method} {c : Code} {H : Heap} {locs : List Loc} {Qf : State → Prop} {ls : Array Slot} {D : va_G} {ca : Nat → ClassId} {A : Nat → Prop} {h0 : Nat} {ad : Nat → Nat} {H0 : Heap}, kX p m c cy mx s args D ca → F ≤ R.frames → L ≤ R.locals → (∀ (v : Int) (u : iST) (H : Heap) (locs : List Loc) (ls : Array Slot) (pc : Nat), inR v → Q v u → kW D ca A h0 ad H0 H locs u → decode cy pc = .ok (.ireturn, 1) → W p l e R s m args below meth c H locs 0 0 Qf (F0 m pc ls [.int (jI v)])) → kW D ca A h0 ad H0 H locs u → lv_has ls mx (lv_args 0 (As)) → W p l e R s m args below meth c H locs 0 0 Qf (F0 m 0 ls [])) : kSI l y (.code y cy mx (some .int) :: wsM) { frames := F, cells := 0, slots := 0, locals := L } As Q u := by
  have hy : plainName y.cls = true := by rw [hcl]; decide +kernel
  intro D ca h0 sz ad
  refine Met.ofW (cc := cy) (maxL := mx) (ret := (some .int)) hy rfl ?_
  intro p e s m args below meth c s₁ B hml hv
  obtain ⟨rfl, hsz, ⟨hP, hK, hD0⟩, hR⟩ := hv
  have hr := B.returns
  have hts := atoms_spec (ws := _) B.pre
  have hlocks := B.notSynchronized
  subst hsz
  have hD := hD0.self (sz := s.heap.size)
  have hl := lv_entry (As) (n := mx) (hmx h0)
  rw [lg_entry_eq]
  have hw : kW D ca (va_A (mCl ca h0 ad (toM u)) s.heap.size) h0 ad s.heap s.heap [] u := ⟨hP, hD, va_S.rf, hR, fun q h => Or.inr h⟩
  exact body ⟨⟨B.exec, B.bytes, hml, hcl ▸ findClass_of_methodNamed B.named, fun w hw => hts w (List.mem_cons_of_mem _ hw)⟩, hK⟩ (Nat.le_refl _) (Nat.le_refl _) (fun v u H locs ls pc hv hq hw d => W.iret (v := jI v) B.exec B.bytes hr (fun t ht hW => ⟨⟨jI v, u, rfl, ⟨v, rfl, hv, hq⟩, ⟨by rw [ht]; exact hw.1, va_K.moved hW.alike hK, hw.2.1⟩, hw.2.2.2.1⟩, hw.2.2.1.F ht⟩) hw.2.2.1.2.2 d) hw hl
theorem kSZ_of {l : Launch} {y : MethodName} {cy : ByteArray} {mx F L : Nat} {As : List Value} {Q : Int → iST → Prop} {u : iST} (hcl : y.cls = RX12) (hmx : ∀ h0 : Nat, (lg_sl (As)).length ≤ mx)
    (body : ∀ {p : Program} {e : Env} {R : Room} {s : State} {m : MethodId} {args : Array Value} {below : List Frame} {meth : Method} {c : Code} {H : Heap} {locs : List Loc} {Qf : State → Prop} {ls : Array Slot} {D : va_G} {ca : Nat → ClassId} {A : Nat → Prop} {h0 : Nat} {ad : Nat → Nat} {H0 : Heap}, kX p m c cy mx s args D ca → F ≤ R.frames → L ≤ R.locals → (∀ (v : Int) (u : iST) (H : Heap) (locs : List Loc) (ls : Array Slot) (pc : Nat), bz v → Q v u → kW D ca A h0 ad H0 H locs u → decode cy pc = .ok (.ireturn, 1) → W p l e R s m args below meth c H locs 0 0 Qf (F0 m pc ls [.int (jI v)])) → kW D ca A h0 ad H0 H locs u → lv_has ls mx (lv_args 0 (As)) → W p l e R s m args below meth c H locs 0 0 Qf (F0 m 0 ls [])) : kSI l y (.code y cy mx (some .boolean) :: wsM) { frames := F, cells := 0, slots := 0, locals := L } As Q u := by
  have hy : plainName y.cls = true := by rw [hcl]; decide +kernel
  intro D ca h0 sz ad
  refine Met.ofW (cc := cy) (maxL := mx) (ret := (some .boolean)) hy rfl ?_
  intro p e s m args below meth c s₁ B hml hv
  obtain ⟨rfl, hsz, ⟨hP, hK, hD0⟩, hR⟩ := hv
  have hr := B.returns
  have hts := atoms_spec (ws := _) B.pre
  have hlocks := B.notSynchronized
  subst hsz
  have hD := hD0.self (sz := s.heap.size)
  have hl := lv_entry (As) (n := mx) (hmx h0)
  rw [lg_entry_eq]
  have hw : kW D ca (va_A (mCl ca h0 ad (toM u)) s.heap.size) h0 ad s.heap s.heap [] u := ⟨hP, hD, va_S.rf, hR, fun q h => Or.inr h⟩
  exact body ⟨⟨B.exec, B.bytes, hml, hcl ▸ findClass_of_methodNamed B.named, fun w hw => hts w (List.mem_cons_of_mem _ hw)⟩, hK⟩ (Nat.le_refl _) (Nat.le_refl _) (fun v u H locs ls pc hv hq hw d => W.zret (v := jI v) B.exec B.bytes hr (bz_nar hv) (fun t ht hW => ⟨⟨jI v, u, rfl, ⟨v, rfl, bz_in hv, hq⟩, ⟨by rw [ht]; exact hw.1, va_K.moved hW.alike hK, hw.2.1⟩, hw.2.2.2.1⟩, hw.2.2.1.F ht⟩) hw.2.2.1.2.2 d) hw hl
