/-! constructors: rows with a pool of cells behind those that are named; the classes of rows are known -/
theorem ra_uq {s : State} {a b : ClassId} {ty : FieldType} (h : va_RA s a ty) (g : va_RA s b ty) : a = b := by
  cases ty with
  | object C =>
    obtain ⟨_, _, _, _, _, h4⟩ := h
    obtain ⟨_, _, _, _, _, g4⟩ := g
    exact Option.some.inj (h4.symm.trans g4)
  | _ =>
    simp only [va_RA] at h g
    exact Option.some.inj (h.symm.trans g)
theorem k_ty {D : va_G} {ca : Nat → ClassId} {s : State} {ts : List (ClassId × FieldType)} {cA : ClassId} {ty : FieldType} (t : Nat) (hK : va_K D vwCl (yTy ca) s) (h1 : va_K D vwCl (ts ++ [(cA, ty)]) s) (ht : (yTy ca)[t]? = some (ca t, ty)) : cA = ca t :=
  ra_uq (h1.2 ts.length (cA, ty) (by rw [List.getElem?_append_right (Nat.le_refl _), Nat.sub_self]; rfl)).2 (hK.2 t _ ht).2
section
variable {p : Program} {l : Launch} {e : Env} {R : Room} {s : State} {m : MethodId} {args : Array Value} {below : List Frame} {meth : Method} {c : Code} {H : Heap} {locs : List Loc} {cells slots : Nat} {Q : State → Prop}
/-- a row is made and put into its final field -/
theorem kb_arr {cc : ByteArray} {pc nw : Nat} {nn : Int32} {index : Nat} {atype : ArrayType} {ty : FieldType} {a0 : vp_A} {Ts : List Cond} {A : Nat → Prop} {H0 : Heap} {D : va_G} {ca : Nat → ClassId} {h0 : Nat} {ls : Array Slot} {C : String} {T : u_T} {N ci : Nat} {ty0 : Nat → FieldType} (t : Nat) (hx : p.tables.exec = Jvm.exec) (hb : c.code = cc) (hts : ∀ w ∈ Ts, w.before args s = true) (hin : ∀ w ∈ u_ws C T N, w ∈ Ts) (hty0 : ∀ k, k < N → parseFieldDescriptor (T k).2.2.1 = some (ty0 k)) (hnmC : ∀ a, a < N → ∀ b, b < N → a ≠ b → (T a).2.1 ≠ (T b).2.1) (hown : s.vm.findClass C = some m.cls) (hnm : meth.name = "<init>") (hc : vwCl[ci]? = some (C, T, N)) (hA : ∀ q : Nat, H0.size ≤ q → A q) {fs : List Value} {cs pl : va_W} (hK : va_K D vwCl (yTy ca) s) (hP : va_P D vwCl (((h0, .inr (ci, fs)) :: cs) ++ pl) H) (hD : va_D A (((h0, .inr (ci, fs)) :: cs) ++ pl)) (hS : va_S A H0 H locs)
    (harr : (Cond.arrayClass (newarray.typeOf atype)).before args s = true) (hty : newarray.typeOf atype = ty) (htt : (yTy ca)[t]? = some (ca t, ty)) (ha : ∀ cA : ClassId, vp_cell cA a0 = arrV cA nw (fun _ => defaultValue ty)) (hn : ¬ nn < 0) (hN : nn.toNatClampNeg = nw) (hbytes : nw * componentBytes ty ≤ 536870912) (hcells : cells + 1 ≤ R.cells) (hslots : slots + nw ≤ R.slots)
    (hd1 : decode cc pc = .ok (.newarray atype, 2)) (k : Nat) (hk : k < N) (hlen : k < fs.length) (hlink : (Cond.fieldLink C index C (T k).2.1 (T k).2.2.1).before args s = true) (hself : (T k).1 = C) (hfin : (T k).2.2.2 = true) (hparse : parseFieldDescriptor (T k).2.2.1 = some (.array ty)) (hd2 : decode cc (pc + 2) = .ok (.putfield index, 3))
    (kk : ∀ (q : Nat) (H1 : Heap) (locs1 : List Loc), va_P D vwCl (((h0, .inr (ci, fs.set k (.ref q))) :: (cs ++ [(q, .inl (ca t, a0))])) ++ pl) H1 → va_D A (((h0, .inr (ci, fs.set k (.ref q))) :: (cs ++ [(q, .inl (ca t, a0))])) ++ pl) → va_S A H0 H1 locs1 → W p l e R s m args below meth c H1 locs1 (cells + 1) (slots + nw) Q (F0 m (pc + 5) ls [])) : W p l e R s m args below meth c H locs cells slots Q (F0 m pc ls [.int nn, .ref h0]) := by
  refine ib_arrK (cs := cs ++ pl) hx hb hts hin hty0 hnmC hown hnm hc hA hK hP hD hS harr hty ha hn hN hbytes hcells hslots hd1 k hk hlen hlink hself hfin hparse hd2 (fun q cA H1 locs1 hK1 hP1 hD1 hS1 => ?_)
  have e := k_ty t hK hK1 htt
  subst e
  exact kk q H1 locs1 (va_P.swap (a := (h0, .inr (ci, fs.set k (.ref q))) :: cs) (b := pl) (c := [(q, .inl (ca t, a0))]) hP1) (va_D.swap (a := (h0, .inr (ci, fs.set k (.ref q))) :: cs) (b := pl) (c := [(q, .inl (ca t, a0))]) hD1) hS1
/-- a row of references is made -/
theorem kb_newq {cc : ByteArray} {pc : Nat} {ls : Array Slot} {rest : List Value} {D : va_G} {A : Nat → Prop} {ca : Nat → ClassId} {H0 : Heap} {X pl : va_W} (hexec : p.tables.exec = Jvm.exec) (hb : c.code = cc) {own C : String} {index : Nat} (t : Nat) (htt : (yTy ca)[t]? = some (ca t, .object C)) (hown : s.vm.findClass own = some m.cls) (hclink : (Cond.classLink own index C).before args s = true) (hover : va_AO C s) (hK : va_K D vwCl (yTy ca) s) (hP : va_P D vwCl (X ++ pl) H) (hD : va_D A (X ++ pl)) (hS : va_S A H0 H locs) (hA : ∀ q, H0.size ≤ q → A q)
    {n : Int32} {N' : Nat} (hn : ¬ n < 0) (hN : n.toNatClampNeg = N') (hbytes : N' * 4 ≤ 536870912) (hcells : cells + 1 ≤ R.cells) (hslots : slots + N' ≤ R.slots) (hdg : decode cc pc = .ok (.anewarray index, 3))
    (kk : ∀ (q : Nat) (H1 : Heap), va_P D vwCl ((X ++ [(q, .inl (ca t, N', .inr (.inr (.inr (.inr (fun _ => none))))))]) ++ pl) H1 → va_D A ((X ++ [(q, .inl (ca t, N', .inr (.inr (.inr (.inr (fun _ => none))))))]) ++ pl) → va_S A H0 H1 locs →
      W p l e R s m args below meth c H1 locs (cells + 1) (slots + N') Q (F0 m (pc + 3) ls (.ref q :: rest))) : W p l e R s m args below meth c H locs cells slots Q (F0 m pc ls (.int n :: rest)) := by
  refine va_newq hexec hb hown hclink hover hK hP hD hS hA hn hN hbytes hcells hslots hdg (fun q cA H1 hK1 hP1 hD1 hS1 => ?_)
  have e := k_ty t hK hK1 htt
  subst e
  exact kk q H1 hP1.swap hD1.swap hS1
end
/-! rows of rows, all kept -/
theorem mn_st_r (T : State) (a q : ClassId) (N M i : Nat) : ∀ j : Nat, j < i → (mn_st T a q N M i).heap[T.heap.size + 1 + j]? = some (mn_in q M) := by
  induction i with
  | zero => intro j hj; omega
  | succ i ih =>
    intro j hj
    obtain ⟨f1, -⟩ := mn_st_f T a q N M i
    show (((mn_st T a q N M i).pushCell (mn_in q M)).setCell T.heap.size _).heap[T.heap.size + 1 + j]? = _
    rw [State.heap_setCell_other (show T.heap.size ≠ T.heap.size + 1 + j by omega)]
    by_cases e : j = i
    · rw [e, ← f1]
      simp
    · rw [State.heap_pushCell_of_lt (h := (show T.heap.size + 1 + j < (mn_st T a q N M i).heap.size by rw [f1]; omega))]
      exact ih j (by omega)
theorem mn_top_s (a : ClassId) (N b i : Nat) : ∀ j : Nat, (mn_top a N b i).slots[j]? = if j < N then some (if j < i then .ref (b + 1 + j) else .null) else none := by
  induction i with
  | zero => intro j; simp [mn_top, Array.getElem?_replicate]
  | succ i ih =>
    intro j
    have hz := (mn_top_f a N b i).2.2
    show ((mn_top a N b i).setSlot i (.ref (b + 1 + i))).slots[j]? = _
    simp only [Cell.setSlot]
    by_cases e : j = i
    · subst e
      by_cases hj : j < N
      · rw [if_pos hj, if_pos (by omega)]
        simp [hz, hj]
      · rw [if_neg hj]
        simp [hz, hj]
    · have : (((mn_top a N b i).slots.setIfInBounds i (.ref (b + 1 + i)))[j]?) = (mn_top a N b i).slots[j]? := by
        rw [Array.getElem?_setIfInBounds_ne (by omega)]
      first
        | rw [this]
        | simp only [Array.set!_eq_setIfInBounds, this]
      rw [ih j]
      by_cases hj : j < N
      · rw [if_pos hj, if_pos hj]
        by_cases h1 : j < i
        · rw [if_pos h1, if_pos (by omega)]
        · rw [if_neg h1, if_neg (by omega)]
      · rw [if_neg hj, if_neg hj]
theorem mn_top_e (a : ClassId) (N b i : Nat) : mn_top a N b i = { cls := a, slots := (mn_top a N b i).slots, vm := .none } := by
  induction i with
  | zero => rfl
  | succ i ih =>
    show (mn_top a N b i).setSlot i _ = { cls := a, slots := ((mn_top a N b i).setSlot i _).slots, vm := .none }
    rw [ih]
    rfl
theorem mn_topV (a : ClassId) (N b : Nat) : mn_top a N b N = vp_cell a (N, .inr (.inr (.inr (.inr (fun j => some (b + 1 + j)))))) := by
  have hs := mn_top_s a N b N
  have e : (mn_top a N b N).slots = (arrV a N (fun j => va_rf (some (b + 1 + j)))).slots := by
    apply Array.ext_getElem?
    intro j
    rw [hs j]
    by_cases hj : j < N
    · rw [if_pos hj, if_pos hj, arrV_read _ _ hj]
      rfl
    · rw [if_neg hj, Array.getElem?_eq_none (by rw [arrV_size]; omega)]
  show mn_top a N b N = arrV a N (fun j => va_rf (some (b + 1 + j)))
  rw [mn_top_e, e]
  rfl
theorem mn_inV (q : ClassId) (M : Nat) : mn_in q M = vp_cell q (M, .inl (fun _ => 0)) := by
  show _ = arrV q M (fun _ => .int 0)
  unfold mn_in
  have e : Array.replicate M (Value.int 0) = (arrV q M (fun _ => .int 0)).slots := by
    apply Array.ext_getElem?
    intro j
    by_cases hj : j < M
    · rw [arrV_read _ _ hj]; simp [hj]
    · rw [show (arrV q M (fun _ => Value.int 0)).slots[j]? = none from Array.getElem?_eq_none (by rw [arrV_size]; omega)]; simp [hj]
  rw [e]
  rfl
/-- N rows of M ints behind q -/
def mnR (q : Nat) (cI : ClassId) (N M : Nat) : va_W := (List.range N).map fun i => (q + 1 + i, .inl (cI, M, .inl (fun _ => 0)))
section
variable {p : Program} {l : Launch} {e : Env} {R : Room} {s : State} {m : MethodId} {args : Array Value} {below : List Frame} {meth : Method} {c : Code} {H : Heap} {locs : List Loc} {cells slots : Nat} {Q : State → Prop}
theorem W.mnewK {cc : ByteArray} (hexec : p.tables.exec = Jvm.exec) (hb : c.code = cc) {own : String} {index : Nat} (hown : s.vm.findClass own = some m.cls) (hclink : (Cond.classLink own index "[[I").before args s = true) (hover : pAI s) (harr : (Cond.arrayClass .int).before args s = true) {pc : Nat} {ls : Array Slot} (hdg : decode cc pc = .ok (.multianewarray index 2, 4)) {n k : Int32} {N M : Nat} {rest : List Value} (hn : ¬ n < 0) (hk : ¬ k < 0) (hN : n.toNatClampNeg = N) (hM : k.toNatClampNeg = M) (hb1 : N * 4 ≤ 536870912) (hb2 : M * 4 ≤ 536870912) (hcells : cells + (1 + N) ≤ R.cells) (hslots : slots + (N + N * M) ≤ R.slots)
    (kk : ∀ (H1 : Heap) (L : List Loc) (cA comp : ClassId), s.vm.findClass "[[I" = some cA → s.vm.findClass "[I" = some comp → H1.size = H.size + 1 + N → (∀ x : Nat, x < H.size → H1[x]? = H[x]?) → H1[H.size]? = some (mn_top cA N H.size N) → (∀ j : Nat, j < N → H1[H.size + 1 + j]? = some (mn_in comp M)) → (∀ q ∈ L, q.base = H.size) → W p l e R s m args below meth c H1 (locs ++ L) (cells + 1 + N) (slots + N + N * M) Q (F0 m (pc + 4) ls (.ref H.size :: rest))) : W p l e R s m args below meth c H locs cells slots Q (F0 m pc ls (.int k :: .int n :: rest)) := by
  intro T hT X
  subst hT
  subst hb
  subst hN
  subst hM
  have hpl : e.platform.magicAccessors = ({} : Platform).magicAccessors := by rw [X.admits.platform]
  obtain ⟨comp, cA, kA, hcomp, hkA, hkindA, hnameA⟩ := hover
  obtain ⟨comp', kC, cc, hcomp', hkC, hkindC⟩ := Cond.arrayClass_spec harr
  have ecomp : comp' = comp := Option.some.inj (hcomp'.symm.trans hcomp)
  subst ecomp
  obtain ⟨c0, hfc0, hcl⟩ := Cond.classLink_spec hown hclink e.platform hpl
  cases hnameA.symm.trans hfc0
  obtain ⟨hg₁, hwarm₁, hready₁⟩ := State.classEntry (e := e) X.warmed hcl
  generalize T.vm.noted m.cls index (.cls cA) = vm₁ at hg₁ hwarm₁ hready₁
  have hal : s.vm.Alike vm₁ := hwarm₁.alike
  obtain ⟨kA₁, hkA₁, heA⟩ := hal.2.2 _ _ hkA
  obtain ⟨kC₁, hkC₁, heC⟩ := hal.2.2 _ _ hkC
  have hkindA₁ : kA₁.kind = .array comp' (.array .int) := by rw [heA]; exact hkindA
  have hkindC₁ : kC₁.kind = .array cc .int := by rw [heC]; exact hkindC
  have X₁ := X.noted hwarm₁
  obtain ⟨hr1, hr2⟩ := X.roomAbove hcells hslots
  have XF := mn_stand X₁ cA comp' n.toNatClampNeg k.toNatClampNeg n.toNatClampNeg
  obtain ⟨f1, f2, -, -, f5⟩ := mn_st_f (T.setVm vm₁) cA comp' n.toNatClampNeg k.toNatClampNeg n.toNatClampNeg
  have f6 := mn_st_r (T.setVm vm₁) cA comp' n.toNatClampNeg k.toNatClampNeg n.toNatClampNeg
  obtain ⟨t, a1, b1⟩ := kk _ _ cA comp' hnameA hcomp f1 f5 f2 f6 (by intro q hq; obtain ⟨j, -, rfl⟩ := List.mem_map.mp hq; rfl) _ rfl XF
  refine ⟨t, ?_, b1⟩
  have hl1 : ¬ n.toNatClampNeg > e.platform.arrayLengthLimit := by rw [Launch.admits_arrayLengthLimit X.admits]; omega
  have hh1 : ¬ n.toNatClampNeg * 4 > e.platform.maxHeapBytes := by rw [Launch.admits_maxHeapBytes X.admits]; omega
  have hl2 : ¬ k.toNatClampNeg > e.platform.arrayLengthLimit := by rw [Launch.admits_arrayLengthLimit X.admits]; omega
  have hh2 : ¬ k.toNatClampNeg * 4 > e.platform.maxHeapBytes := by rw [Launch.admits_maxHeapBytes X.admits]; omega
  jvm_step X.here [hexec, hdg]
  simp only [multianewarray.sem, wp_bind', W.resolveClassAt_links (State.method?_setTop (F0 m pc ls (.int k :: .int n :: rest)) X.here.top) hg₁]
  rw [W.popN, if_neg (by decide)]
  refine ⟨F0 m pc ls (.int k :: .int n :: rest), State.topJava?_setTop' (s := T.setVm vm₁) _ X.here.top, [.int n, .int k], rest, rfl, rfl, ?_⟩
  simp only [List.mapM_cons, List.mapM_nil, wp_bind', wp_pure']
  refine mn_make (k := kA₁) (kc := kC₁) (comp := comp') (cc := cc) hkA₁ hkindA₁ hkC₁ hkindC₁ hn hk hl1 hh1 hl2 hh2 (by show T.heap.size + 1 + _ ≤ _; omega) (by show T.slotsUsed + _ + _ ≤ _; omega) (fun d' acts' => ?_)
  have eS : ∀ g1 g2 : JFrame, ((T.setTop g1).setVm vm₁).setTop g2 = (T.setVm vm₁).setTop g2 := by
    intro g1 g2
    show ((T.setVm vm₁).setTop g1).setTop g2 = _
    rw [State.setTop_setTop]
  rw [eS, mn_st_t]
  simp only [wp_bind', W.mark, W.pushRef, State.topJava?_setTop' _ XF.here.top, Option.some.injEq, exists_eq_left', State.setTop_setTop, State.heap_setTop]
  intro acts
  simp [jvm, XF.here.top]
  exact a1
/-- rows of rows are made and put into their final field, and kept -/
theorem kb_mn {cc : ByteArray} {pc N2 M2 : Nat} {nn kk2 : Int32} {index ix2 : Nat} {Ts : List Cond} {A : Nat → Prop} {H0 : Heap} {D : va_G} {ca : Nat → ClassId} {h0 : Nat} {ls : Array Slot} {C : String} {T : u_T} {N ci : Nat} {ty0 : Nat → FieldType} (hx : p.tables.exec = Jvm.exec) (hb : c.code = cc) (hts : ∀ w ∈ Ts, w.before args s = true) (hin : ∀ w ∈ u_ws C T N, w ∈ Ts) (hty0 : ∀ k, k < N → parseFieldDescriptor (T k).2.2.1 = some (ty0 k)) (hnmC : ∀ a, a < N → ∀ b, b < N → a ≠ b → (T a).2.1 ≠ (T b).2.1) (hown : s.vm.findClass C = some m.cls) (hnm : meth.name = "<init>") (hc : vwCl[ci]? = some (C, T, N)) (hA : ∀ q : Nat, H0.size ≤ q → A q) {fs : List Value} {cs pl : va_W} (hK : va_K D vwCl (yTy ca) s) (hP : va_P D vwCl (((h0, .inr (ci, fs)) :: cs) ++ pl) H) (hD : va_D A (((h0, .inr (ci, fs)) :: cs) ++ pl)) (hS : va_S A H0 H locs)
    (hclink : (Cond.classLink C ix2 "[[I").before args s = true) (hover : pAI s) (harr : (Cond.arrayClass .int).before args s = true) (hn : ¬ nn < 0) (hk2 : ¬ kk2 < 0) (hN : nn.toNatClampNeg = N2) (hM : kk2.toNatClampNeg = M2) (hb1 : N2 * 4 ≤ 536870912) (hb2 : M2 * 4 ≤ 536870912) (hcells : cells + (1 + N2) ≤ R.cells) (hslots : slots + (N2 + N2 * M2) ≤ R.slots)
    (hd1 : decode cc pc = .ok (.multianewarray ix2 2, 4)) (k : Nat) (hk : k < N) (hlen : k < fs.length) (hlink : (Cond.fieldLink C index C (T k).2.1 (T k).2.2.1).before args s = true) (hself : (T k).1 = C) (hfin : (T k).2.2.2 = true) (hparse : parseFieldDescriptor (T k).2.2.1 = some (.array (.array .int))) (hd2 : decode cc (pc + 4) = .ok (.putfield index, 3))
    (kk : ∀ (q : Nat) (H1 : Heap) (locs1 : List Loc), va_P D vwCl (((h0, .inr (ci, fs.set k (.ref q))) :: (cs ++ [(q, .inl (ca 4, N2, .inr (.inr (.inr (.inr (fun j => some (q + 1 + j)))))))])) ++ (mnR q (ca 0) N2 M2 ++ pl)) H1 → va_D A (((h0, .inr (ci, fs.set k (.ref q))) :: (cs ++ [(q, .inl (ca 4, N2, .inr (.inr (.inr (.inr (fun j => some (q + 1 + j)))))))])) ++ (mnR q (ca 0) N2 M2 ++ pl)) → va_S A H0 H1 locs1 → W p l e R s m args below meth c H1 locs1 (cells + 1 + N2) (slots + N2 + N2 * M2) Q (F0 m (pc + 7) ls [])) : W p l e R s m args below meth c H locs cells slots Q (F0 m pc ls [.int kk2, .int nn, .ref h0]) := by
  refine W.mnewK hx hb hown hclink hover harr hd1 hn hk2 hN hM hb1 hb2 hcells hslots (fun H1 L cA comp hcA hcomp z1 o1 t1 r1 hL => ?_)
  have eA : cA = ca 4 := ra_uq (ty := .array .int) (s := s) (by simp only [va_RA]; exact hcA) (hK.2 4 _ rfl).2
  have eI : comp = ca 0 := ra_uq (ty := .int) (s := s) (by simp only [va_RA]; exact hcomp) (hK.2 0 _ rfl).2
  subst eA
  subst eI
  have hP1 : va_P D vwCl (((h0, .inr (ci, fs)) :: cs) ++ pl) H1 := hP.kept (fun k x hx => o1 x.1 ((hP k x hx).lt))
  have hS1 : va_S A H0 H1 (locs ++ L) := by
    refine ⟨Nat.le_trans hS.1 (by omega), fun x h1 h2 => (o1 x (Nat.lt_of_lt_of_le h1 hS.1)).trans (hS.2.1 x h1 h2), fun q hq => ?_⟩
    rcases List.mem_append.mp hq with h | h
    · exact hS.2.2 q h
    · rw [hL q h]
      exact hA _ hS.1
  have hPn : va_P D vwCl ((H.size, .inl (ca 4, N2, .inr (.inr (.inr (.inr (fun j => some (H.size + 1 + j))))))) :: mnR H.size (ca 0) N2 M2) H1 := by
    intro k q hq
    cases k with
    | zero =>
      obtain rfl := Option.some.inj hq
      show H1[H.size]? = _
      rw [t1, mn_topV]
    | succ k =>
      have hq : (mnR H.size (ca 0) N2 M2)[k]? = some q := hq
      unfold mnR at hq
      rw [List.getElem?_map, Option.map_eq_some_iff] at hq
      obtain ⟨j, hj, rfl⟩ := hq
      have hk : k < N2 := by have := (List.getElem?_eq_some_iff.mp hj).1; simpa using this
      rw [List.getElem?_range hk] at hj
      obtain rfl := Option.some.inj hj
      show H1[H.size + 1 + k]? = _
      rw [r1 k hk, mn_inV]
  have hDn : va_D A ((H.size, .inl (ca 4, N2, .inr (.inr (.inr (.inr (fun j => some (H.size + 1 + j))))))) :: mnR H.size (ca 0) N2 M2) := by
    have ad : ∀ (k : Nat) (q : Nat × va_E), ((H.size, Sum.inl (ca 4, N2, .inr (.inr (.inr (.inr (fun j => some (H.size + 1 + j))))))) :: mnR H.size (ca 0) N2 M2)[k]? = some q → q.1 = H.size + k := by
      intro k q hq
      cases k with
      | zero => obtain rfl := Option.some.inj hq; rfl
      | succ k =>
        have hq : (mnR H.size (ca 0) N2 M2)[k]? = some q := hq
        unfold mnR at hq
        rw [List.getElem?_map, Option.map_eq_some_iff] at hq
        obtain ⟨j, hj, rfl⟩ := hq
        have hk : k < N2 := by have := (List.getElem?_eq_some_iff.mp hj).1; simpa using this
        rw [List.getElem?_range hk] at hj
        obtain rfl := Option.some.inj hj
        show H.size + 1 + k = H.size + (k + 1)
        omega
    exact ⟨fun i j x y hx hy e => by have := ad i x hx; have := ad j y hy; omega, fun k q hq => hA _ (by rw [ad k q hq]; have := hS.1; omega)⟩
  have hP2 : va_P D vwCl ((((h0, .inr (ci, fs)) :: cs) ++ pl) ++ ((H.size, .inl (ca 4, N2, .inr (.inr (.inr (.inr (fun j => some (H.size + 1 + j))))))) :: mnR H.size (ca 0) N2 M2)) H1 := hP1.app hPn
  have hD2 : va_D A ((((h0, .inr (ci, fs)) :: cs) ++ pl) ++ ((H.size, .inl (ca 4, N2, .inr (.inr (.inr (.inr (fun j => some (H.size + 1 + j))))))) :: mnR H.size (ca 0) N2 M2)) := by
    refine hD.app hDn (fun i j x y hx hy e => ?_)
    have h1 := (hP i x hx).lt
    have h2 : H.size ≤ y.1 := by
      cases j with
      | zero => obtain rfl := Option.some.inj hy; exact Nat.le_refl _
      | succ j =>
        have hy : (mnR H.size (ca 0) N2 M2)[j]? = some y := hy
        unfold mnR at hy
        rw [List.getElem?_map, Option.map_eq_some_iff] at hy
        obtain ⟨i, -, rfl⟩ := hy
        show H.size ≤ H.size + 1 + i
        omega
    omega
  have eL : (((((h0, (.inr (ci, fs) : va_E)) :: cs) ++ ((H.size, .inl (ca 4, N2, .inr (.inr (.inr (.inr (fun j => some (H.size + 1 + j))))))) :: mnR H.size (ca 0) N2 M2)) ++ pl) : va_W) = (((h0, .inr (ci, fs)) :: (cs ++ [(H.size, .inl (ca 4, N2, .inr (.inr (.inr (.inr (fun j => some (H.size + 1 + j)))))))])) ++ (mnR H.size (ca 0) N2 M2 ++ pl)) := by simp [List.append_assoc]
  have hP3 := hP2.swap
  have hD3 := hD2.swap
  rw [eL] at hP3 hD3
  refine va_putF (D := D) (ci := ci) (v := .ref H.size) (ty := .array (.array .int)) (C := C) (T := T) (N := N) hx hb hts hin ty0 hty0 hnmC hown hK hP3 hD3 hS1 0 rfl hc k hk hlink (fun _ h9 => by rw [hself] at h9; exact h9) hfin hnm hself hparse rfl rfl hlen hd2 (fun H2 locs2 hP hD hS => ?_)
  exact kk H.size H2 locs2 hP hD hS
end
/-! clauses that were made, and their rows -/
def clP (cI : ClassId) (f g : Nat → Nat) : Nat → va_W
  | 0 => []
  | n + 1 => (f n, .inr (1, [.ref (g n), .int (0), .int (0), .int (0)])) :: (g n, .inl (cI, 30, .inl (fun _ => 0))) :: clP cI f g n
theorem clP_c {cI : ClassId} {f g f' g' : Nat → Nat} : ∀ {n : Nat}, (∀ i, i < n → f' i = f i ∧ g' i = g i) → clP cI f' g' n = clP cI f g n
  | 0, _ => rfl
  | n + 1, h => by
    show (f' n, _) :: (g' n, _) :: clP cI f' g' n = (f n, _) :: (g n, _) :: clP cI f g n
    rw [clP_c (fun i hi => h i (Nat.lt_succ_of_lt hi)), (h n (Nat.lt_succ_self _)).1, (h n (Nat.lt_succ_self _)).2]
def fnU (f : Nat → Nat) (j q : Nat) (i : Nat) : Nat := if i = j then q else f i
theorem clP_up {cI : ClassId} {f g : Nat → Nat} {q r n : Nat} : clP cI (fnU f n q) (fnU g n r) (n + 1) = (q, .inr (1, [.ref r, .int (0), .int (0), .int (0)])) :: (r, .inl (cI, 30, .inl (fun _ => 0))) :: clP cI f g n := by
  show (fnU f n q n, Sum.inr (1, [Value.ref (fnU g n r n), .int (0), .int (0), .int (0)])) :: (fnU g n r n, Sum.inl (cI, 30, Sum.inl (fun _ => 0))) :: clP cI (fnU f n q) (fnU g n r) n = _
  rw [clP_c (f' := fnU f n q) (g' := fnU g n r) (f := f) (g := g) (fun i hi => ⟨if_neg (by omega), if_neg (by omega)⟩), show fnU f n q n = q from if_pos rfl, show fnU g n r n = r from if_pos rfl]
def fnO (f : Nat → Nat) (j : Nat) (i : Nat) : Option Nat := if i < j then some (f i) else none
theorem fnO_up {f : Nat → Nat} {j q : Nat} : va_up (fnO f j) j (some q) = fnO (fnU f j q) (j + 1) := by
  funext i
  show (if i = j then some q else if i < j then some (f i) else none) = if i < j + 1 then some (if i = j then q else f i) else none
  by_cases e : i = j
  · rw [if_pos e, if_pos (by omega), if_pos e]
  · rw [if_neg e, if_neg e]
    by_cases h : i < j
    · rw [if_pos h, if_pos (by omega)]
    · rw [if_neg h, if_neg (by omega)]
