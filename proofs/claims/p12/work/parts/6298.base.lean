section
variable {p : Program} {l : Launch} {e : Env} {R : Room} {s : State} {m : MethodId} {args : Array Value} {below : List Frame} {meth : Method} {c : Code} {H : Heap} {locs : List Loc} {cells slots : Nat} {Q : State → Prop}
/-- a loop that changes its locals alone -/
theorem w_loop {pc nL : Nat} {α : Type} (lst : α → List (Nat × Value)) (μ : α → Nat) (I : α → Prop) (step : ∀ (a : α) (ls : Array Slot), I a → lv_has ls nL (lst a) → (∀ (b : α) (ls' : Array Slot), I b → μ b < μ a → lv_has ls' nL (lst b) → W p l e R s m args below meth c H locs cells slots Q (F0 m pc ls' [])) → W p l e R s m args below meth c H locs cells slots Q (F0 m pc ls [])) (a : α) (ls : Array Slot) (hI : I a) (hl : lv_has ls nL (lst a)) : W p l e R s m args below meth c H locs cells slots Q (F0 m pc ls []) := by
  have key : ∀ (n : Nat) (a : α) (ls : Array Slot), μ a < n → I a → lv_has ls nL (lst a) → W p l e R s m args below meth c H locs cells slots Q (F0 m pc ls []) := by
    intro n
    induction n with
    | zero => intro a ls h; exact absurd h (Nat.not_lt_zero _)
    | succ n ih => intro a ls h hI hl; exact step a ls hI hl (fun b ls' hb hm hl' => ih b ls' (by omega) hb hl')
  exact key (μ a + 1) a ls (Nat.lt_succ_self _) hI hl
end
/-! a row of rows of ints is made (multianewarray of two dimensions): what the machine does, and the row for it -/
def mn_in (q : ClassId) (M : Nat) : Cell := { cls := q, slots := Array.replicate M (.int 0), vm := .none }
def mn_top (a : ClassId) (N b : Nat) : Nat → Cell
  | 0 => { cls := a, slots := Array.replicate N .null, vm := .none }
  | i + 1 => (mn_top a N b i).setSlot i (.ref (b + 1 + i))
def mn_st (T : State) (a q : ClassId) (N M : Nat) : Nat → State
  | 0 => T.pushCell (mn_top a N T.heap.size 0)
  | i + 1 => ((mn_st T a q N M i).pushCell (mn_in q M)).setCell T.heap.size (mn_top a N T.heap.size (i + 1))
theorem mn_top_f (a : ClassId) (N b : Nat) (i : Nat) : (mn_top a N b i).cls = a ∧ (mn_top a N b i).vm = .none ∧ (mn_top a N b i).slots.size = N := by
  induction i with
  | zero => exact ⟨rfl, rfl, by simp [mn_top]⟩
  | succ i ih =>
    obtain ⟨h1, h2, h3⟩ := ih
    exact ⟨by simp [mn_top, Cell.setSlot, h1], by simp [mn_top, Cell.setSlot, h2], by simp [mn_top, Cell.setSlot, h3]⟩
theorem mn_st_f (T : State) (a q : ClassId) (N M i : Nat) : (mn_st T a q N M i).heap.size = T.heap.size + 1 + i ∧ (mn_st T a q N M i).heap[T.heap.size]? = some (mn_top a N T.heap.size i) ∧ (mn_st T a q N M i).vm = T.vm ∧ (mn_st T a q N M i).slotsUsed = T.slotsUsed + N + i * M ∧ ∀ x : Nat, x < T.heap.size → (mn_st T a q N M i).heap[x]? = T.heap[x]? := by
  induction i with
  | zero => exact ⟨by simp [mn_st], by simp [mn_st], rfl, by simp [mn_st, mn_top], fun x hx => State.heap_pushCell_of_lt _ _ hx⟩
  | succ i ih =>
    obtain ⟨h1, h2, h3, h4, h5⟩ := ih
    have hlt : T.heap.size < (mn_st T a q N M i).heap.size := by omega
    have hb : ((mn_st T a q N M i).pushCell (mn_in q M)).heap[T.heap.size]? = some (mn_top a N T.heap.size i) := by
      rw [State.heap_pushCell_of_lt (h := hlt)]
      exact h2
    refine ⟨?_, State.heap_setCell_self hb, by simp [mn_st, h3], ?_, ?_⟩
    · simp [mn_st, State.setCell, h1]
      omega
    · simp [mn_st, h4, mn_in, Nat.succ_mul]
      omega
    · intro x hx
      have hl2 : x < (mn_st T a q N M i).heap.size := by omega
      show (((mn_st T a q N M i).pushCell (mn_in q M)).setCell T.heap.size _).heap[x]? = _
      rw [State.heap_setCell_other (Nat.ne_of_gt hx), State.heap_pushCell_of_lt (h := hl2)]
      exact h5 x hx
theorem mn_st_t (T : State) (f : JFrame) (a q : ClassId) (N M i : Nat) : mn_st (T.setTop f) a q N M i = (mn_st T a q N M i).setTop f := by
  induction i with
  | zero => rfl
  | succ i ih => simp only [mn_st, ih, State.heap_setTop, State.pushCell_setTop, State.setCell_setTop]
section
variable {E : CtlPost} {e : Env} {d : Bool} {acts : List Action} {s : State}
theorem mn_new {c comp : ClassId} {k : Class} {ty : FieldType} {len : Nat} {v : Value} (hk : s.vm.classes[c]? = some k) (hkind : k.kind = .array comp ty) (hl : ¬ len > e.platform.arrayLengthLimit) (hh : ¬ len * componentBytes ty > e.platform.maxHeapBytes) (hfit : fits ty v = true) (hdef : v.isDefault = true) {Q : Addr → Bool → List Action → State → Prop} (h1 : s.heap.size < e.platform.maxCells) (h2 : s.slotsUsed + len ≤ e.platform.maxSlots) (hq : Q s.heap.size d acts (s.pushCell { cls := c, slots := Array.replicate len v, vm := .none })) : wp (Jvm.newArray c len v) Q E e d acts s := by
  have hfits : ∀ i x, (Array.replicate len v)[i]? = some x → s.fitsSlot c .none i x = true := by
    intro i x hx
    simp only [Array.getElem?_replicate] at hx
    split at hx
    · cases hx
      simp [State.fitsSlot, State.slotType?, hk, hkind, hfit]
    · cases hx
  have hda : allocActs (Array.replicate len v) s.heap.size acts = acts := by
    have hall : ((Array.replicate len v).all (·.isDefault)) = true := by
      rw [Array.all_replicate]
      split <;> simp [hdef]
    unfold allocActs
    rw [if_pos hall]
  simp only [Jvm.newArray, Jvm.arrayFits, wp_bind', W.ask, W.ite, hl, if_false, wp_pure', W.theClass, hk, hkind, hh, W.alloc, W.stop, Option.some.injEq, exists_eq_left', Array.size_replicate, hda]
  rw [if_neg (by omega)]
  exact ⟨h1, h2, hfits, hq⟩
theorem mn_make {c comp cc : ClassId} {k kc : Class} {n m : Int32} (hk : s.vm.classes[c]? = some k) (hkind : k.kind = .array comp (.array .int)) (hkc : s.vm.classes[comp]? = some kc) (hkindc : kc.kind = .array cc .int) (hn : ¬ n < 0) (hm : ¬ m < 0) (hl1 : ¬ n.toNatClampNeg > e.platform.arrayLengthLimit) (hh1 : ¬ n.toNatClampNeg * 4 > e.platform.maxHeapBytes) (hl2 : ¬ m.toNatClampNeg > e.platform.arrayLengthLimit) (hh2 : ¬ m.toNatClampNeg * 4 > e.platform.maxHeapBytes) (hc : s.heap.size + 1 + n.toNatClampNeg ≤ e.platform.maxCells) (hs : s.slotsUsed + n.toNatClampNeg + n.toNatClampNeg * m.toNatClampNeg ≤ e.platform.maxSlots) {Q : Addr → Bool → List Action → State → Prop} (hq : ∀ d' acts', Q s.heap.size d' acts' (mn_st s c comp n.toNatClampNeg m.toNatClampNeg n.toNatClampNeg)) : wp (multianewarray.make c [n, m]) Q E e d acts s := by
  obtain ⟨N, hN⟩ : ∃ N, n.toNatClampNeg = N := ⟨_, rfl⟩
  obtain ⟨M, hM⟩ : ∃ M, m.toNatClampNeg = M := ⟨_, rfl⟩
  rw [hN] at hl1 hh1 hc hs hq
  rw [hM] at hl2 hh2 hs hq
  have hfind : ([m].find? (· < 0)) = none := by simp [hm]
  rw [multianewarray.make]
  simp only [wp_bind', W.ite, hn, if_false, wp_pure', W.theClass, hk, hkind, Option.some.injEq, exists_eq_left']
  rw [hN]
  refine mn_new hk hkind hl1 hh1 rfl rfl (by omega) (by have := Nat.zero_le (N * M); omega) ?_
  simp only [hfind]
  rw [ite_self, wp_bind', Std.Legacy.Range.forIn_eq_forIn_range']
  have hsz : ([:N] : Std.Legacy.Range).size = N := by simp [Std.Legacy.Range.size]
  rw [hsz]
  show wp (forIn (List.range' 0 N 1) PUnit.unit _) _ E e d acts _
  refine wp_forIn_inv (fun rest t => ∃ i, i ≤ N ∧ rest = List.range' i (N - i) ∧ t = mn_st s c comp N M i) _ _ ⟨0, Nat.zero_le _, rfl, rfl⟩ ?_ ?_
  · rintro x rest t d' acts' Q' ⟨i, hi, hl, rfl⟩ hnext
    have hlt : i < N := by
      rcases Nat.lt_or_ge i N with h | h
      · exact h
      · rw [show N - i = 0 from by omega] at hl
        simp at hl
    rw [show N - i = (N - (i + 1)) + 1 from by omega, List.range'_succ] at hl
    obtain ⟨rfl, hrest⟩ := List.cons.inj hl
    obtain ⟨f1, f2, f3, f4, -⟩ := mn_st_f s c comp N M x
    obtain ⟨o1, o2, o3⟩ := mn_top_f c N s.heap.size x
    have hmul : x * M + M ≤ N * M := by
      have h := Nat.mul_le_mul_right M (show x + 1 ≤ N from hlt)
      rw [Nat.succ_mul] at h
      exact h
    have hlt0 : s.heap.size < (mn_st s c comp N M x).heap.size := by rw [f1]; omega
    simp only [wp_bind']
    rw [multianewarray.make]
    simp only [wp_bind', W.ite, hm, if_false, wp_pure', W.theClass, f3, hkc, hkindc, Option.some.injEq, exists_eq_left']
    rw [hM]
    refine mn_new (by rw [f3]; exact hkc) hkindc hl2 hh2 rfl rfl (by rw [f1]; omega) (by rw [f4]; omega) ?_
    simp only [wp_bind', W.writeLoc, wp_pure']
    refine ⟨mn_top c N s.heap.size x, by rw [State.heap_pushCell_of_lt (h := hlt0)]; exact f2, by rw [o2]; simp, by rw [o3]; exact hlt, ?_, hnext _ _ _ ⟨x + 1, hlt, hrest, ?_⟩⟩
    · rw [o1, o2]
      simp [State.fitsSlot, State.slotType?, f3, hk, hkind, fits]
    · rw [f1]
      rfl
  · rintro t d' acts' ⟨i, hi, hl, rfl⟩
    have hiN : i = N := by
      rcases Nat.lt_or_ge i N with h | h
      · rw [show N - i = (N - (i + 1)) + 1 from by omega, List.range'_succ] at hl
        cases hl
      · omega
    subst hiN
    simp only [wp_pure']
    exact hq _ _
end
/-- the tables have rows of ints, and rows of these -/
def pAI (U : State) : Prop := ∃ (comp c : ClassId) (k : Class), U.vm.findClass "[I" = some comp ∧ U.vm.classes[c]? = some k ∧ k.kind = .array comp (.array .int) ∧ U.vm.findClass "[[I" = some c
theorem pAI.moved {u U : State} (hvm : u.vm.Alike U.vm) (h : pAI u) : pAI U := by
  obtain ⟨comp, c, k, h1, h2, h3, h4⟩ := h
  obtain ⟨k', hk', he⟩ := hvm.2.2 _ _ h2
  exact ⟨comp, c, k', by rw [hvm.findClass]; exact h1, hk', by rw [he]; exact h3, by rw [hvm.findClass]; exact h4⟩
theorem mn_over {args : Array Value} {s : State} (h : (Cond.arrayOver (.array .int)).before args s = true) : pAI s := by
  have e1 : (FieldType.array .int).toString = "[I" := by decide
  have e2 : "[" ++ (FieldType.array .int).toString = "[[I" := by decide
  simp only [Cond.before, Cond.holds, Cond.value, beq_iff_eq] at h
  rw [e1] at h
  cases hc : s.vm.findClass "[I" with
  | none => simp [hc] at h
  | some comp =>
    simp only [hc, Option.bind_some, Option.bind_eq_some_iff, Option.map_eq_some_iff] at h
    obtain ⟨c, hi, k, hk, hb⟩ := h
    obtain ⟨hlt, hp, -⟩ := Array.findIdx?_eq_some_iff_getElem.mp hi
    have hkk : s.vm.classes[c] = k := (Array.getElem?_eq_some_iff.mp hk).2
    rw [hkk] at hp
    cases hkind : k.kind with
    | array component ty =>
      rw [hkind] at hb hp
      simp at hb hp
      exact ⟨comp, c, k, hc, hk, by rw [hkind, hp, hb.1], by rw [← hb.2]⟩
    | _ => rw [hkind] at hb; simp at hb
section
variable {p : Program} {l : Launch} {e : Env} {R : Room} {s : State} {m : MethodId} {args : Array Value} {below : List Frame} {meth : Method} {c : Code} {H : Heap} {locs : List Loc} {cells slots : Nat} {Q : State → Prop}
theorem mn_stand {T : State} (X : Stand p l e R s m args below meth c T locs cells slots) (a q : ClassId) (N M i : Nat) : Stand p l e R s m args below meth c (mn_st T a q N M i) (locs ++ (List.range i).map fun j => ⟨T.heap.size, j⟩) (cells + 1 + i) (slots + N + i * M) := by
  induction i with
  | zero =>
    have h := X.pushed (mn_top a N T.heap.size 0)
    rw [(mn_top_f a N T.heap.size 0).2.2] at h
    simpa [mn_st] using h
  | succ i ih =>
    obtain ⟨f1, f2, -⟩ := mn_st_f T a q N M i
    have hlt : T.heap.size < (mn_st T a q N M i).heap.size := by rw [f1]; omega
    have hcell : ((mn_st T a q N M i).pushCell (mn_in q M)).heap[T.heap.size]? = some (mn_top a N T.heap.size i) := by
      rw [State.heap_pushCell_of_lt (h := hlt)]
      exact f2
    have h := (ih.pushed (mn_in q M)).stored hcell i (.ref (T.heap.size + 1 + i))
    have e1 : (mn_in q M).slots.size = M := by simp [mn_in]
    have e2 : (locs ++ (List.range (i + 1)).map fun j => (⟨T.heap.size, j⟩ : Loc)) = (locs ++ (List.range i).map fun j => (⟨T.heap.size, j⟩ : Loc)) ++ [⟨T.heap.size, i⟩] := by simp [List.range_succ, List.append_assoc]
    have e3 : slots + N + (i + 1) * M = slots + N + i * M + M := by rw [Nat.succ_mul]; omega
    rw [e1] at h
    rw [e2, e3]
    exact h
/-- multianewarray of ints, two dimensions: nothing old changes -/
theorem W.mnew {cc : ByteArray} (hexec : p.tables.exec = Jvm.exec) (hb : c.code = cc) {own : String} {index : Nat} (hown : s.vm.findClass own = some m.cls) (hclink : (Cond.classLink own index "[[I").before args s = true) (hover : pAI s) (harr : (Cond.arrayClass .int).before args s = true) {pc : Nat} {ls : Array Slot} (hdg : decode cc pc = .ok (.multianewarray index 2, 4)) {n k : Int32} {N M : Nat} {rest : List Value} (hn : ¬ n < 0) (hk : ¬ k < 0) (hN : n.toNatClampNeg = N) (hM : k.toNatClampNeg = M) (hb1 : N * 4 ≤ 536870912) (hb2 : M * 4 ≤ 536870912) (hcells : cells + (1 + N) ≤ R.cells) (hslots : slots + (N + N * M) ≤ R.slots)
    (kk : ∀ (H1 : Heap) (L : List Loc), H1.size = H.size + 1 + N → (∀ x : Nat, x < H.size → H1[x]? = H[x]?) → (∀ q ∈ L, q.base = H.size) → W p l e R s m args below meth c H1 (locs ++ L) (cells + 1 + N) (slots + N + N * M) Q (F0 m (pc + 4) ls (.ref H.size :: rest))) : W p l e R s m args below meth c H locs cells slots Q (F0 m pc ls (.int k :: .int n :: rest)) := by
  intro T hT X
  subst hT
  subst hb
  subst hN
  subst hM
  have hpl : e.platform.magicAccessors = ({} : Platform).magicAccessors := by rw [X.admits.platform]
  obtain ⟨comp, cA, kA, hcomp, hkA, hkindA, hnameA⟩ := hover
  obtain ⟨comp', kC, cc, hcomp', hkC, hkindC⟩ := Cond.arrayClass_spec harr
  have ecomp : comp' = comp := Option.some.inj (hcomp'.symm.trans hcomp)
  subst ecomp
  obtain ⟨c0, hfc0, hcl⟩ := Cond.classLink_spec hown hclink e.platform hpl
  cases hnameA.symm.trans hfc0
  obtain ⟨hg₁, hwarm₁, hready₁⟩ := State.classEntry (e := e) X.warmed hcl
  generalize T.vm.noted m.cls index (.cls cA) = vm₁ at hg₁ hwarm₁ hready₁
  have hal : s.vm.Alike vm₁ := hwarm₁.alike
  obtain ⟨kA₁, hkA₁, heA⟩ := hal.2.2 _ _ hkA
  obtain ⟨kC₁, hkC₁, heC⟩ := hal.2.2 _ _ hkC
  have hkindA₁ : kA₁.kind = .array comp' (.array .int) := by rw [heA]; exact hkindA
  have hkindC₁ : kC₁.kind = .array cc .int := by rw [heC]; exact hkindC
  have X₁ := X.noted hwarm₁
  obtain ⟨hr1, hr2⟩ := X.roomAbove hcells hslots
  have XF := mn_stand X₁ cA comp' n.toNatClampNeg k.toNatClampNeg n.toNatClampNeg
  obtain ⟨f1, -, -, -, f5⟩ := mn_st_f (T.setVm vm₁) cA comp' n.toNatClampNeg k.toNatClampNeg n.toNatClampNeg
  obtain ⟨t, a1, b1⟩ := kk _ _ f1 f5 (by intro q hq; obtain ⟨j, -, rfl⟩ := List.mem_map.mp hq; rfl) _ rfl XF
  refine ⟨t, ?_, b1⟩
  have hl1 : ¬ n.toNatClampNeg > e.platform.arrayLengthLimit := by rw [Launch.admits_arrayLengthLimit X.admits]; omega
  have hh1 : ¬ n.toNatClampNeg * 4 > e.platform.maxHeapBytes := by rw [Launch.admits_maxHeapBytes X.admits]; omega
  have hl2 : ¬ k.toNatClampNeg > e.platform.arrayLengthLimit := by rw [Launch.admits_arrayLengthLimit X.admits]; omega
  have hh2 : ¬ k.toNatClampNeg * 4 > e.platform.maxHeapBytes := by rw [Launch.admits_maxHeapBytes X.admits]; omega
  jvm_step X.here [hexec, hdg]
  simp only [multianewarray.sem, wp_bind', W.resolveClassAt_links (State.method?_setTop (F0 m pc ls (.int k :: .int n :: rest)) X.here.top) hg₁]
  rw [W.popN, if_neg (by decide)]
  refine ⟨F0 m pc ls (.int k :: .int n :: rest), State.topJava?_setTop' (s := T.setVm vm₁) _ X.here.top, [.int n, .int k], rest, rfl, rfl, ?_⟩
  simp only [List.mapM_cons, List.mapM_nil, wp_bind', wp_pure']
  refine mn_make (k := kA₁) (kc := kC₁) (comp := comp') (cc := cc) hkA₁ hkindA₁ hkC₁ hkindC₁ hn hk hl1 hh1 hl2 hh2 (by show T.heap.size + 1 + _ ≤ _; omega) (by show T.slotsUsed + _ + _ ≤ _; omega) (fun d' acts' => ?_)
  have eS : ∀ g1 g2 : JFrame, ((T.setTop g1).setVm vm₁).setTop g2 = (T.setVm vm₁).setTop g2 := by
    intro g1 g2
    show ((T.setVm vm₁).setTop g1).setTop g2 = _
    rw [State.setTop_setTop]
  rw [eS, mn_st_t]
  simp only [wp_bind', W.mark, W.pushRef, State.topJava?_setTop' _ XF.here.top, Option.some.injEq, exists_eq_left', State.setTop_setTop, State.heap_setTop]
  intro acts
  simp [jvm, XF.here.top]
  exact a1
end
/-! rows for constructors of the class: a row is made, put into its final field, and kept or forgotten -/
theorem p_drop {D : va_G} {cl : List vw_C} {ws : va_W} {x : Nat × va_E} {H : Heap} (h : va_P D cl (ws ++ [x]) H) : va_P D cl ws H := fun k q hk => h k q (by rw [List.getElem?_append_left (List.getElem?_eq_some_iff.mp hk).1]; exact hk)
theorem d_drop {A : Nat → Prop} {ws : va_W} {x : Nat × va_E} (h : va_D A (ws ++ [x])) : va_D A ws :=
  ⟨fun i j p q hi hj e => h.1 i j p q (by rw [List.getElem?_append_left (List.getElem?_eq_some_iff.mp hi).1]; exact hi) (by rw [List.getElem?_append_left (List.getElem?_eq_some_iff.mp hj).1]; exact hj) e, fun k q hk => h.2 k q (by rw [List.getElem?_append_left (List.getElem?_eq_some_iff.mp hk).1]; exact hk)⟩
theorem p_nil {D : va_G} {cl : List vw_C} {H : Heap} : va_P D cl [] H := fun k q h => by simp at h
theorem d_nil {A : Nat → Prop} : va_D A [] := ⟨fun i j p q h => by simp at h, fun k q h => by simp at h⟩
theorem ia_C (cA : ClassId) (n : Nat) : vp_cell cA (n, .inl (fun _ => 0)) = arrV cA n (fun _ => defaultValue .char) := rfl
section
variable {p : Program} {l : Launch} {e : Env} {R : Room} {s : State} {m : MethodId} {args : Array Value} {below : List Frame} {meth : Method} {c : Code} {H : Heap} {locs : List Loc} {cells slots : Nat} {Q : State → Prop}
/-- a row is made and put into its final field; the row is kept -/
theorem ib_arrK {cc : ByteArray} {pc nw : Nat} {nn : Int32} {index : Nat} {atype : ArrayType} {ty : FieldType} {a0 : vp_A} {Ts : List Cond} {A : Nat → Prop} {H0 : Heap} {D : va_G} {h0 : Nat} {ls : Array Slot} {C : String} {T : u_T} {N ci : Nat} {ty0 : Nat → FieldType} (hx : p.tables.exec = Jvm.exec) (hb : c.code = cc) (hts : ∀ w ∈ Ts, w.before args s = true) (hin : ∀ w ∈ u_ws C T N, w ∈ Ts) (hty0 : ∀ k, k < N → parseFieldDescriptor (T k).2.2.1 = some (ty0 k)) (hnmC : ∀ a, a < N → ∀ b, b < N → a ≠ b → (T a).2.1 ≠ (T b).2.1) (hown : s.vm.findClass C = some m.cls) (hnm : meth.name = "<init>") (hc : vwCl[ci]? = some (C, T, N)) (hA : ∀ q : Nat, H0.size ≤ q → A q) {fs : List Value} {cs : va_W} {ts : List (ClassId × FieldType)} (hK : va_K D vwCl ts s) (hP : va_P D vwCl ((h0, .inr (ci, fs)) :: cs) H) (hD : va_D A ((h0, .inr (ci, fs)) :: cs)) (hS : va_S A H0 H locs)
    (harr : (Cond.arrayClass (newarray.typeOf atype)).before args s = true) (hty : newarray.typeOf atype = ty) (ha : ∀ cA : ClassId, vp_cell cA a0 = arrV cA nw (fun _ => defaultValue ty)) (hn : ¬ nn < 0) (hN : nn.toNatClampNeg = nw) (hbytes : nw * componentBytes ty ≤ 536870912) (hcells : cells + 1 ≤ R.cells) (hslots : slots + nw ≤ R.slots)
    (hd1 : decode cc pc = .ok (.newarray atype, 2)) (k : Nat) (hk : k < N) (hlen : k < fs.length) (hlink : (Cond.fieldLink C index C (T k).2.1 (T k).2.2.1).before args s = true) (hself : (T k).1 = C) (hfin : (T k).2.2.2 = true) (hparse : parseFieldDescriptor (T k).2.2.1 = some (.array ty)) (hd2 : decode cc (pc + 2) = .ok (.putfield index, 3))
    (kk : ∀ (q : Nat) (cA : ClassId) (H1 : Heap) (locs1 : List Loc), va_K D vwCl (ts ++ [(cA, ty)]) s → va_P D vwCl ((h0, .inr (ci, fs.set k (.ref q))) :: (cs ++ [(q, .inl (cA, a0))])) H1 → va_D A ((h0, .inr (ci, fs.set k (.ref q))) :: (cs ++ [(q, .inl (cA, a0))])) → va_S A H0 H1 locs1 → W p l e R s m args below meth c H1 locs1 (cells + 1) (slots + nw) Q (F0 m (pc + 5) ls [])) : W p l e R s m args below meth c H locs cells slots Q (F0 m pc ls [.int nn, .ref h0]) := by
  refine va_newa (ty := ty) (a0 := a0) (N' := nw) hx hb harr hty hK hP hD hS hA ha hn hN hbytes hcells hslots hd1 (fun q cA H hK hP hD hS => ?_)
  refine va_putF (D := D) (ci := ci) (v := .ref q) (ty := .array ty) (C := C) (T := T) (N := N) hx hb hts hin ty0 hty0 hnmC hown hK hP hD hS 0 rfl hc k hk hlink (fun _ h9 => by rw [hself] at h9; exact h9) hfin hnm hself hparse rfl rfl hlen hd2 (fun H locs hP hD hS => ?_)
  exact kk q cA H locs hK hP hD hS
/-- .. ; the row is forgotten -/
theorem ib_arr {cc : ByteArray} {pc nw : Nat} {nn : Int32} {index : Nat} {atype : ArrayType} {ty : FieldType} {a0 : vp_A} {Ts : List Cond} {A : Nat → Prop} {H0 : Heap} {D : va_G} {h0 : Nat} {ls : Array Slot} {C : String} {T : u_T} {N ci : Nat} {ty0 : Nat → FieldType} (hx : p.tables.exec = Jvm.exec) (hb : c.code = cc) (hts : ∀ w ∈ Ts, w.before args s = true) (hin : ∀ w ∈ u_ws C T N, w ∈ Ts) (hty0 : ∀ k, k < N → parseFieldDescriptor (T k).2.2.1 = some (ty0 k)) (hnmC : ∀ a, a < N → ∀ b, b < N → a ≠ b → (T a).2.1 ≠ (T b).2.1) (hown : s.vm.findClass C = some m.cls) (hnm : meth.name = "<init>") (hc : vwCl[ci]? = some (C, T, N)) (hA : ∀ q : Nat, H0.size ≤ q → A q) {fs : List Value} {cs : va_W} {ts : List (ClassId × FieldType)} (hK : va_K D vwCl ts s) (hP : va_P D vwCl ((h0, .inr (ci, fs)) :: cs) H) (hD : va_D A ((h0, .inr (ci, fs)) :: cs)) (hS : va_S A H0 H locs)
    (harr : (Cond.arrayClass (newarray.typeOf atype)).before args s = true) (hty : newarray.typeOf atype = ty) (ha : ∀ cA : ClassId, vp_cell cA a0 = arrV cA nw (fun _ => defaultValue ty)) (hn : ¬ nn < 0) (hN : nn.toNatClampNeg = nw) (hbytes : nw * componentBytes ty ≤ 536870912) (hcells : cells + 1 ≤ R.cells) (hslots : slots + nw ≤ R.slots)
    (hd1 : decode cc pc = .ok (.newarray atype, 2)) (k : Nat) (hk : k < N) (hlen : k < fs.length) (hlink : (Cond.fieldLink C index C (T k).2.1 (T k).2.2.1).before args s = true) (hself : (T k).1 = C) (hfin : (T k).2.2.2 = true) (hparse : parseFieldDescriptor (T k).2.2.1 = some (.array ty)) (hd2 : decode cc (pc + 2) = .ok (.putfield index, 3))
    (kk : ∀ (q : Nat) (H1 : Heap) (locs1 : List Loc), va_P D vwCl ((h0, .inr (ci, fs.set k (.ref q))) :: cs) H1 → va_D A ((h0, .inr (ci, fs.set k (.ref q))) :: cs) → va_S A H0 H1 locs1 → W p l e R s m args below meth c H1 locs1 (cells + 1) (slots + nw) Q (F0 m (pc + 5) ls [])) : W p l e R s m args below meth c H locs cells slots Q (F0 m pc ls [.int nn, .ref h0]) :=
  ib_arrK hx hb hts hin hty0 hnmC hown hnm hc hA hK hP hD hS harr hty ha hn hN hbytes hcells hslots hd1 k hk hlen hlink hself hfin hparse hd2 (fun q _ H1 locs1 _ hP hD hS => kk q H1 locs1 (p_drop (ws := (h0, .inr (ci, fs.set k (.ref q))) :: cs) hP) (d_drop (ws := (h0, .inr (ci, fs.set k (.ref q))) :: cs) hD) hS)
/-- rows of rows are made and put into their final field, and forgotten -/
theorem ib_mn {cc : ByteArray} {pc N2 M2 : Nat} {nn kk2 : Int32} {index ix2 : Nat} {Ts : List Cond} {A : Nat → Prop} {H0 : Heap} {D : va_G} {h0 : Nat} {ls : Array Slot} {C : String} {T : u_T} {N ci : Nat} {ty0 : Nat → FieldType} (hx : p.tables.exec = Jvm.exec) (hb : c.code = cc) (hts : ∀ w ∈ Ts, w.before args s = true) (hin : ∀ w ∈ u_ws C T N, w ∈ Ts) (hty0 : ∀ k, k < N → parseFieldDescriptor (T k).2.2.1 = some (ty0 k)) (hnmC : ∀ a, a < N → ∀ b, b < N → a ≠ b → (T a).2.1 ≠ (T b).2.1) (hown : s.vm.findClass C = some m.cls) (hnm : meth.name = "<init>") (hc : vwCl[ci]? = some (C, T, N)) (hA : ∀ q : Nat, H0.size ≤ q → A q) {fs : List Value} {cs : va_W} {ts : List (ClassId × FieldType)} (hK : va_K D vwCl ts s) (hP : va_P D vwCl ((h0, .inr (ci, fs)) :: cs) H) (hD : va_D A ((h0, .inr (ci, fs)) :: cs)) (hS : va_S A H0 H locs)
    (hclink : (Cond.classLink C ix2 "[[I").before args s = true) (hover : pAI s) (harr : (Cond.arrayClass .int).before args s = true) (hn : ¬ nn < 0) (hk2 : ¬ kk2 < 0) (hN : nn.toNatClampNeg = N2) (hM : kk2.toNatClampNeg = M2) (hb1 : N2 * 4 ≤ 536870912) (hb2 : M2 * 4 ≤ 536870912) (hcells : cells + (1 + N2) ≤ R.cells) (hslots : slots + (N2 + N2 * M2) ≤ R.slots)
    (hd1 : decode cc pc = .ok (.multianewarray ix2 2, 4)) (k : Nat) (hk : k < N) (hlen : k < fs.length) (hlink : (Cond.fieldLink C index C (T k).2.1 (T k).2.2.1).before args s = true) (hself : (T k).1 = C) (hfin : (T k).2.2.2 = true) (hparse : parseFieldDescriptor (T k).2.2.1 = some (.array (.array .int))) (hd2 : decode cc (pc + 4) = .ok (.putfield index, 3))
    (kk : ∀ (q : Nat) (H1 : Heap) (locs1 : List Loc), va_P D vwCl ((h0, .inr (ci, fs.set k (.ref q))) :: cs) H1 → va_D A ((h0, .inr (ci, fs.set k (.ref q))) :: cs) → va_S A H0 H1 locs1 → W p l e R s m args below meth c H1 locs1 (cells + 1 + N2) (slots + N2 + N2 * M2) Q (F0 m (pc + 7) ls [])) : W p l e R s m args below meth c H locs cells slots Q (F0 m pc ls [.int kk2, .int nn, .ref h0]) := by
  refine W.mnew hx hb hown hclink hover harr hd1 hn hk2 hN hM hb1 hb2 hcells hslots (fun H1 L z1 o1 hL => ?_)
  have hP1 : va_P D vwCl ((h0, .inr (ci, fs)) :: cs) H1 := hP.kept (fun k x hx => o1 x.1 ((hP k x hx).lt))
  have hS1 : va_S A H0 H1 (locs ++ L) := by
    refine ⟨Nat.le_trans hS.1 (by omega), fun x h1 h2 => (o1 x (Nat.lt_of_lt_of_le h1 hS.1)).trans (hS.2.1 x h1 h2), fun q hq => ?_⟩
    rcases List.mem_append.mp hq with h | h
    · exact hS.2.2 q h
    · rw [hL q h]
      exact hA _ hS.1
  refine va_putF (D := D) (ci := ci) (v := .ref H.size) (ty := .array (.array .int)) (C := C) (T := T) (N := N) hx hb hts hin ty0 hty0 hnmC hown hK hP1 hD hS1 0 rfl hc k hk hlink (fun _ h9 => by rw [hself] at h9; exact h9) hfin hnm hself hparse rfl rfl hlen hd2 (fun H2 locs2 hP hD hS => ?_)
  exact kk H.size H2 locs2 hP hD hS
end
section
variable {p : Program} {l : Launch} {e : Env} {R : Room} {s : State} {m : MethodId} {args : Array Value} {below : List Frame} {meth : Method} {c : Code} {H : Heap} {locs : List Loc} {Q : State → Prop}
/-- a loop that changes cells, locals, and makes cells -/
theorem w_loopC {D : va_G} {A : Nat → Prop} {H0 : Heap} {pc nL : Nat} {α : Type} (wd : α → va_W) (lst : α → List (Nat × Value)) (ce sl : α → Nat) (μ : α → Nat) (I : α → Prop) (step : ∀ (a : α) (H : Heap) (locs : List Loc) (ls : Array Slot), I a → va_P D vwCl (wd a) H → va_D A (wd a) → va_S A H0 H locs → lv_has ls nL (lst a) → (∀ (b : α) (H : Heap) (locs : List Loc) (ls' : Array Slot), I b → μ b < μ a → va_P D vwCl (wd b) H → va_D A (wd b) → va_S A H0 H locs → lv_has ls' nL (lst b) → W p l e R s m args below meth c H locs (ce b) (sl b) Q (F0 m pc ls' [])) → W p l e R s m args below meth c H locs (ce a) (sl a) Q (F0 m pc ls [])) (a : α) (ls : Array Slot) (hI : I a) (hP : va_P D vwCl (wd a) H) (hD : va_D A (wd a)) (hS : va_S A H0 H locs) (hl : lv_has ls nL (lst a)) : W p l e R s m args below meth c H locs (ce a) (sl a) Q (F0 m pc ls []) := by
  have key : ∀ (n : Nat) (a : α) (H : Heap) (locs : List Loc) (ls : Array Slot), μ a < n → I a → va_P D vwCl (wd a) H → va_D A (wd a) → va_S A H0 H locs → lv_has ls nL (lst a) → W p l e R s m args below meth c H locs (ce a) (sl a) Q (F0 m pc ls []) := by
    intro n
    induction n with
    | zero => intro a H locs ls h; exact absurd h (Nat.not_lt_zero _)
    | succ n ih => intro a H locs ls h hI hP hD hS hl; exact step a H locs ls hI hP hD hS hl (fun b H locs ls' hb hm hP hD hS hl' => ih b H locs ls' (by omega) hb hP hD hS hl')
  exact key (μ a + 1) a H locs ls (Nat.lt_succ_self _) hI hP hD hS hl
end
