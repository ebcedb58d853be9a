theorem p_left {D : va_G} {cl : List vw_C} {a b : va_W} {H : Heap} (h : va_P D cl (a ++ b) H) : va_P D cl a H := fun k q hk => h k q (by rw [List.getElem?_append_left (List.getElem?_eq_some_iff.mp hk).1]; exact hk)
theorem at_right {a b : va_W} {k : Nat} {q : Nat × va_E} (hk : b[k]? = some q) : (a ++ b)[a.length + k]? = some q := by rw [List.getElem?_append_right (Nat.le_add_right _ _), Nat.add_sub_cancel_left]; exact hk
theorem at_left {a b : va_W} {k : Nat} {q : Nat × va_E} (hk : a[k]? = some q) : (a ++ b)[k]? = some q := by rw [List.getElem?_append_left (List.getElem?_eq_some_iff.mp hk).1]; exact hk
theorem p_right {D : va_G} {cl : List vw_C} {a b : va_W} {H : Heap} (h : va_P D cl (a ++ b) H) : va_P D cl b H := fun k q hk => h _ q (at_right hk)
theorem d_left {A : Nat → Prop} {a b : va_W} (h : va_D A (a ++ b)) : va_D A a := ⟨fun i j p q hi hj e => h.1 i j p q (at_left hi) (at_left hj) e, fun k q hk => h.2 k q (at_left hk)⟩
theorem d_right {A : Nat → Prop} {a b : va_W} (h : va_D A (a ++ b)) : va_D A b := ⟨fun i j p q hi hj e => by have h1 := h.1 _ _ p q (at_right hi) (at_right hj) e; omega, fun k q hk => h.2 _ q (at_right hk)⟩
theorem d_apart {A : Nat → Prop} {a b : va_W} (h : va_D A (a ++ b)) {i j : Nat} {x y : Nat × va_E} (hx : a[i]? = some x) (hy : b[j]? = some y) : x.1 ≠ y.1 := by
  intro e
  have h1 := h.1 _ _ x y (at_left hx) (at_right hy) e
  have h2 := (List.getElem?_eq_some_iff.mp hx).1
  omega
/-- the right world stays when the left one's cells alone have changed -/
theorem p_keepR {D : va_G} {cl : List vw_C} {A : Nat → Prop} {a b : va_W} {H H1 : Heap} (hP : va_P D cl (a ++ b) H) (hD : va_D A (a ++ b)) (hk : ∀ q : Nat, q < H.size → ¬ va_A a H.size q → H1[q]? = H[q]?) : va_P D cl b H1 := by
  intro k q hq
  have h1 := hP _ _ (at_right (a := a) hq)
  refine h1.kept (hk q.1 h1.lt (fun h => ?_))
  rcases h with ⟨k2, e, h⟩ | h
  · exact d_apart hD h hq rfl
  · have := h1.lt
    omega
/-- the left world stays when the right one's cells alone have changed; what came stands beside it -/
theorem p_join {D : va_G} {cl : List vw_C} {A : Nat → Prop} {a b w1 : va_W} {H H1 : Heap} (hP : va_P D cl (a ++ b) H) (hD : va_D A (a ++ b)) (hk : ∀ q : Nat, q < H.size → ¬ va_A b H.size q → H1[q]? = H[q]?) (hF : ∀ q, va_A b H.size q → A q) (hP1 : va_P D cl w1 H1) (hD1 : va_D (va_A b H.size) w1) : va_P D cl (a ++ w1) H1 ∧ va_D A (a ++ w1) := by
  have apart : ∀ (k : Nat) (q : Nat × va_E), a[k]? = some q → q.1 < H.size ∧ ¬ va_A b H.size q.1 := by
    intro k q hq
    have h1 := (hP _ _ (at_left (b := b) hq)).lt
    refine ⟨h1, fun h => ?_⟩
    rcases h with ⟨k2, e, h⟩ | h
    · exact d_apart hD hq h rfl
    · omega
  refine ⟨va_P.app (fun k q hq => ?_) hP1, va_D.app (d_left hD) (hD1.weaken (fun k q _ h => hF q.1 h)) (fun i j x y hx hy hxy => ?_)⟩
  · exact (hP _ _ (at_left hq)).kept (hk q.1 (apart k q hq).1 (apart k q hq).2)
  · exact (apart i x hx).2 (by rw [hxy]; exact hD1.2 j y hy)
theorem k_left {D : va_G} {cl : List vw_C} {a b : List (ClassId × FieldType)} {U : State} (h : va_K D cl (a ++ b) U) : va_K D cl a U := ⟨h.1, fun k q hk => h.2 k q (by rw [List.getElem?_append_left (List.getElem?_eq_some_iff.mp hk).1]; exact hk)⟩
theorem k_right {D : va_G} {cl : List vw_C} {a b : List (ClassId × FieldType)} {U : State} (h : va_K D cl (a ++ b) U) : va_K D cl b U := ⟨h.1, fun k q hk => h.2 (a.length + k) q (by rw [List.getElem?_append_right (Nat.le_add_right _ _), Nat.add_sub_cancel_left]; exact hk)⟩
theorem hN.same {u U : State} (h : u.vm = U.vm) (q : hN u) : hN U := ⟨va_AO.moved (by rw [h]; exact Vm.Alike.refl _) q.1, pAI.moved (by rw [h]; exact Vm.Alike.refl _) q.2.1, va_Nw.same rfl h q.2.2.1, va_Nw.same rfl h q.2.2.2.1, va_Nw.same rfl h q.2.2.2.2⟩
theorem hN.warm {s U : State} (h : s.WarmedH U.vm) (q : hN s) : hN U := ⟨va_AO.moved h.alike q.1, pAI.moved h.alike q.2.1, va_Nw.warmM h q.2.2.1, va_Nw.warmM h q.2.2.2.1, va_Nw.warmF h q.2.2.2.2⟩
theorem hStr.same {adK : Nat → Nat} {u U : State} (h : U.vm = u.vm) (q : hStr adK u) : hStr adK U := ⟨vk_R.same h q.1, vk_R.same h q.2⟩
theorem hStr.warm {adK : Nat → Nat} {s U : State} (h : s.WarmedH U.vm) (q : hStr adK s) : hStr adK U := ⟨vk_R.warm h q.1, vk_R.warm h q.2⟩
def s_tm (i : Nat) : Term := if i = 0 then .string "ProofHouse$Room" 49 else .string "ProofHouse$Room" 57
def s_el (i j : Nat) : Cond := .eq (.elem (.field (s_tm i) "java/lang/String" "value" "[B") (.int (Int32.ofNat j))) (.int ((sByt.getD i []).getD j 0))
def s_fl : List Cond := flatC (Jvm.Cond.and given_1 narrow_1)
set_option maxRecDepth 100000 in
theorem s_el0 : (s_fl.drop 106).take 220 = (List.range 220).map (s_el 0) := by decide +kernel
set_option maxRecDepth 100000 in
theorem s_el1 : (s_fl.drop 330).take 47 = (List.range 47).map (s_el 1) := by decide +kernel
theorem s_elin {i j : Nat} (hi : i < 2) (hj : j < sLen.getD i 0) : s_el i j ∈ s_fl := by
  rcases (show i = 0 ∨ i = 1 by omega) with rfl | rfl
  · have h : s_el 0 j ∈ (s_fl.drop 106).take 220 := by
      rw [s_el0]
      exact List.mem_map.mpr ⟨j, List.mem_range.mpr hj, rfl⟩
    exact List.mem_of_mem_drop (List.mem_of_mem_take h)
  · have h : s_el 1 j ∈ (s_fl.drop 330).take 47 := by
      rw [s_el1]
      exact List.mem_map.mpr ⟨j, List.mem_range.mpr hj, rfl⟩
    exact List.mem_of_mem_drop (List.mem_of_mem_take h)
set_option maxRecDepth 100000 in
theorem s_misc : ∀ i, i < 2 → Cond.exactly (s_tm i) "java/lang/String" ∈ s_fl ∧ Cond.eq (.field (s_tm i) "java/lang/String" "coder" "B") (.int 0) ∈ s_fl ∧ Cond.arrayOf (.field (s_tm i) "java/lang/String" "value" "[B") .byte ∈ s_fl ∧ Cond.eq (.length (.field (s_tm i) "java/lang/String" "value" "[B")) (.int (Int32.ofNat (sLen.getD i 0))) ∈ s_fl := by
  intro i hi
  rcases (show i = 0 ∨ i = 1 by omega) with rfl | rfl
  · exact ⟨List.mem_of_getElem? (i := 102) (by decide +kernel), List.mem_of_getElem? (i := 103) (by decide +kernel), List.mem_of_getElem? (i := 104) (by decide +kernel), List.mem_of_getElem? (i := 105) (by decide +kernel)⟩
  · exact ⟨List.mem_of_getElem? (i := 326) (by decide +kernel), List.mem_of_getElem? (i := 327) (by decide +kernel), List.mem_of_getElem? (i := 328) (by decide +kernel), List.mem_of_getElem? (i := 329) (by decide +kernel)⟩
set_option maxRecDepth 100000 in
theorem s_start {args : Array Value} {s : State} {A : Nat → Prop} (hts : ∀ w ∈ lw_tbl, w.before args s = true) (hgv : (Jvm.Cond.and given_1 narrow_1).before args s = true) (hA : ∀ a : Nat, a < s.heap.size → ¬ A a) : ∃ adK adV : Nat → Nat, sS adK adV A s s.heap ∧ hStr adK s := by
  have hs : ∀ w ∈ s_fl, w.before args s = true := flat_of_before _ hgv
  obtain ⟨adK, adV, h1, h2⟩ := vk_Sof (args := args) (s := s) (N := 2) (tm := s_tm) (len := sLen) (byt := sByt) (A := A) (fun i hi => by have := s_all i hi; omega) (fun i hi => hs _ (s_misc i hi).1) (fun i hi => hs _ (s_misc i hi).2.1) (fun i hi => hs _ (s_misc i hi).2.2.1) (fun i hi => hs _ (s_misc i hi).2.2.2) (fun i hi j hj => hs _ (s_elin hi hj)) (fun i j hi hj hne => by
    have hd : (Cond.not (Cond.eq (s_tm 0) (s_tm 1))).before args s = true := hs _ (List.mem_of_getElem? (i := 377) (by decide +kernel))
    rcases (show i = 0 ∨ i = 1 by omega) with rfl | rfl <;> rcases (show j = 0 ∨ j = 1 by omega) with rfl | rfl
    · exact absurd rfl hne
    · exact Or.inl hd
    · exact Or.inr hd
    · exact absurd rfl hne) hA
  refine ⟨adK, adV, ⟨h1, va_Zof (hts _ lq_ls) (hts _ lq_zs) (va_eqt (hs (Cond.eq (.static "java/lang/String" "COMPACT_STRINGS" "Z") (.int 1)) (List.mem_of_getElem? (i := 4) (by decide +kernel)))) hA, va_Zqof (hts _ lq_lp) (hts _ lq_zp) (hs _ (List.mem_of_getElem? (i := 5) (by decide +kernel))) hA⟩, ?_, ?_⟩
  · exact vk_R.of (hts _ lq_s0) (h2 0 (by decide))
  · exact vk_R.of (hts _ lq_s1) (h2 1 (by decide))
