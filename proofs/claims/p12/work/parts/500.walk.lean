-- deps: 499
/-! the reference, partial: walks over a term -/
/-- a term at a place, functions with these numbers of terms -/
def NdA [DecidableEq Ob] (u : iST) (ar : Ob → Int) (k : Int) : Prop := 0 ≤ k ∧ k < u.1 8 ∧ Tm u (ob u k) ∧ Ob.wt ar (ob u k)
theorem NdA.mono [DecidableEq Ob] {n : Nat → Bool} {u v : iST} {ar : Ob → Int} {k : Int} (h : NdA u ar k) (hT : TI u) (hG : GZ n u v) : NdA v ar k ∧ ob v k = ob u k := by
  have e := hG.ob hT h.1 h.2.1
  have := hG.le
  refine ⟨⟨h.1, by have := h.2.1; omega, ?_, ?_⟩, e⟩
  · rw [e]; exact h.2.2.1.mono hG hT
  · rw [e]; exact h.2.2.2
theorem NdA.call [DecidableEq Ob] {u : iST} {ar : Ob → Int} {k : Int} (h : NdA u ar k) (hc : (ob u k).isCall = true) : ∃ f l, ob u k = .pr f (Ob.ofList l) ∧ f ≠ Ob.quote ∧ f.isSym = true ∧ ar f = (l.length : Int) ∧ ∀ x, x ∈ l → Ob.wt ar x ∧ Tm u x := by
  obtain ⟨f, l, e, h1, h2, h3, h4⟩ := Ob.wt_call h.2.2.2 hc
  refine ⟨f, l, e, h1, h2, h3, fun x hx => ⟨h4 x hx, ?_⟩⟩
  have tm := h.2.2.1
  rw [e] at tm
  exact Tm_row l x (Tm_call tm h1).2.1 hx
theorem pt_list [DecidableEq Ob] : ∀ l : List Ob, Ob.ptM true (Ob.ofList l) = l.flatMap Ob.parts
  | [] => rfl
  | a :: l => by
    show Ob.ptM false a ++ Ob.ptM true (Ob.ofList l) = _
    rw [pt_list l]
    rfl
theorem parts_cl [DecidableEq Ob] {f : Ob} {l : List Ob} (hq : f ≠ Ob.quote) : Ob.parts (.pr f (Ob.ofList l)) = .pr f (Ob.ofList l) :: l.flatMap Ob.parts := by
  rw [← pt_list]
  exact if_neg hq
theorem parts_no [DecidableEq Ob] {o : Ob} (h : o.isCall = false) : Ob.parts o = [o] := by
  cases o with
  | var x => rfl
  | op a b =>
    have : a = Ob.quote := by
      have h : decide (a ≠ Ob.quote) = false := h
      exact Decidable.not_not.mp (of_decide_eq_false h)
    exact if_pos this
theorem ob_len_le [DecidableEq Ob] {u : iST} (hT : TI u) : ∀ (n : Nat) (k : Int), k.toNat < n → 0 ≤ k → k < u.1 8 → (ob u k).len ≤ k
  | 0, _, h, _, _ => by omega
  | n + 1, k, h, k0, k1 => by
    by_cases c : (ob u k).isPr = true
    · obtain ⟨a, b, a', b', _, _, e⟩ := ob_lft hT k0 k1 c
      have ih := ob_len_le hT n (u.2.1 1 k) (by omega) a' (by omega)
      rw [e, Ob.len_pr]
      split <;> omega
    · cases e : ob u k with
      | op a b => rw [e] at c; exact absurd rfl c
      | var x =>
        rw [Ob.len_var]
        split <;> omega
/-- what waits, the latest first -/
def rvl [DecidableEq Ob] {α : Type} (g : Int → α) : Nat → List α | 0 => [] | n + 1 => g (n : Int) :: rvl g n
theorem rvl_congr [DecidableEq Ob] {α : Type} {g h : Int → α} : ∀ n : Nat, (∀ i : Nat, i < n → g (i : Int) = h (i : Int)) → rvl g n = rvl h n
  | 0, _ => rfl
  | n + 1, e => by
    show g (n : Int) :: rvl g n = h (n : Int) :: rvl h n
    rw [e n (by omega), rvl_congr n (fun i hi => e i (by omega))]
def stk [DecidableEq Ob] (u : iST) : List Ob := rvl (fun i => ob u (u.2.1 75 i)) (u.1 76).toNat
def WkO [DecidableEq Ob] (u : iST) (ar : Ob → Int) : Prop := 0 ≤ u.1 76 ∧ ∀ i, 0 ≤ i → i < u.1 76 → NdA u ar (u.2.1 75 i)
def f7W (k : Nat) : Bool := decide (75 ≤ k ∧ k ≤ 76)
def todo [DecidableEq Ob] (u : iST) : List Ob := (stk u).flatMap Ob.parts
theorem p_walkTo [DecidableEq Ob] {a : Int} {Q : iST → Prop} {u : iST} {ar : Ob → Int} (hT : TI u) (hU : TU u) (hW : WkO u ar) (na : NdA u ar a) (hq : ∀ v, GZ f7W u v → WkO v ar → stk v = ob u a :: stk u → Q v) : pw_walkTo a Q u := by
  have w0 := hW.1
  unfold pw_walkTo
  intro x ex _ _ _ w1 ew1 y ey _ _ w2 ew2
  have ey' : y = u.1 76 := by rw [ey, ew1]; rfl
  rw [ey'] at ew2
  rw [ex] at ew1
  have g : GZ f7W u w2 := by
    rw [ew2, ew1]
    exact GZ_eq (GZ.rf hT hU) (fun k hk => ⟨if_neg (by omega), if_neg (by omega)⟩) rfl ((Fx_A (by decide)).tr (Fx_I (by decide)))
  have h76 : w2.1 76 = u.1 76 + 1 := by rw [ew2]; rfl
  have h75 : ∀ i, w2.2.1 75 i = if i = u.1 76 then a else u.2.1 75 i := fun i => by rw [ew2, ew1]; rfl
  clear ew1 ew2 ey
  refine hq w2 g ⟨by omega, fun i i0 i1 => ?_⟩ ?_
  · rw [h75]
    by_cases c : i = u.1 76
    · rw [if_pos c]; exact (na.mono hT g).1
    · rw [if_neg c]; exact ((hW.2 i i0 (by omega)).mono hT g).1
  · unfold stk
    rw [h76, show (u.1 76 + 1).toNat = (u.1 76).toNat + 1 by omega]
    show ob w2 (w2.2.1 75 ((u.1 76).toNat : Int)) :: rvl _ _ = _
    rw [h75, if_pos (by omega), (na.mono hT g).2]
    refine congrArg _ (rvl_congr _ (fun i hi => ?_))
    show ob w2 (w2.2.1 75 (i : Int)) = _
    rw [h75, if_neg (by omega), ((hW.2 (i : Int) (by omega) (by omega)).mono hT g).2]
theorem drop_cons [DecidableEq Ob] {α : Type} (l : List α) (n : Nat) (d : α) (h : n < l.length) : l.drop n = l.getD n d :: l.drop (n + 1) := by
  rw [List.drop_eq_getElem_cons h, List.getD_eq_getElem?_getD, List.getElem?_eq_getElem h]
  rfl
theorem p_walkOn [DecidableEq Ob] {Q : Int → iST → Prop} {u : iST} {ar : Ob → Int} (hT : TI u) (hU : TU u) (hW : WkO u ar) (hp : 0 < u.1 76) (hq : ∀ k v, GZ f7W u v → WkO v ar → NdA v ar k → todo u = ob v k :: todo v → Q k v) : pw_walkOn Q u := by
  unfold pw_walkOn
  intro x ex _ _ w ew y ey _ _ _ z ez _
  have ey' : y = u.1 76 - 1 := by rw [ey, ew, ex]; rfl
  rw [ey'] at ez
  have g : GZ f7W u w := by
    rw [ew]
    exact GZ_eq (GZ.rf hT hU) (fun k hk => ⟨if_neg (by omega), rfl⟩) rfl (Fx_I (by decide))
  have h76 : w.1 76 = u.1 76 - 1 := by rw [ew, ex]; rfl
  have h75 : w.2.1 75 = u.2.1 75 := by rw [ew]; rfl
  clear ew ey
  rw [h75] at ez
  have nz := hW.2 (u.1 76 - 1) (by omega) (by omega)
  rw [← ez] at nz
  obtain ⟨nw, eo⟩ := nz.mono hT g
  have hWw : WkO w ar := ⟨by omega, fun i i0 i1 => by rw [h75]; exact ((hW.2 i i0 (by omega)).mono hT g).1⟩
  have hs : stk u = ob w z :: stk w := by
    unfold stk
    rw [show (u.1 76).toNat = (w.1 76).toNat + 1 by omega]
    show ob u (u.2.1 75 ((w.1 76).toNat : Int)) :: rvl _ _ = _
    rw [show ((w.1 76).toNat : Int) = u.1 76 - 1 by omega, ← ez, eo]
    refine congrArg _ (rvl_congr _ (fun i hi => ?_))
    show ob u (u.2.1 75 (i : Int)) = ob w (w.2.1 75 (i : Int))
    rw [h75, ((hW.2 (i : Int) (by omega) (by omega)).mono hT g).2]
  have ht : todo u = Ob.parts (ob w z) ++ todo w := by
    unfold todo
    rw [hs, List.flatMap_cons]
  have hTw := g.1
  have hUw := g.2.1
  refine p_isCall hTw hUw nw.1 nw.2.1 (fun r hr => ⟨fun hc => ?_, fun hc => hq z w g hWw nw ?_⟩)
  · have hcall := hr.t hc
    obtain ⟨f, l, e, f1, f2, f3, f4⟩ := nw.call hcall
    obtain ⟨a, b, a', b', _, er, _⟩ := ob_lft hTw nw.1 nw.2.1 (by rw [e]; rfl)
    have er' : ob w (w.2.1 1 z) = Ob.ofList l := by rw [← er, e]; rfl
    have hlen : Ob.len (ob w (w.2.1 1 z)) = (l.length : Int) := by rw [er', Ob.len_ofList]
    have hlow := ob_len_le hTw _ (w.2.1 1 z) (Nat.lt_succ_self _) a' (by have := nw.2.1; omega)
    rw [hlen] at hlow
    have h8 := hTw.le
    intro _ _ c ec _
    rw [ec]
    refine p_lengthOf hTw hUw a' (by have := nw.2.1; omega) ?_
    rw [hlen]
    refine pw_walkOn_43_i (fun x1 x3 v => x1 = z ∧ ∃ n : Nat, x3 = (n : Int) ∧ n ≤ l.length ∧ GZ f7W w v ∧ WkO v ar ∧ stk v = l.drop n ++ stk w) ?_ ⟨rfl, l.length, rfl, Nat.le_refl _, GZ.rf hTw hUw, hWw, by rw [List.drop_length]; rfl⟩
    intro x1 x3 v hI
    obtain ⟨e1, n, e3, hn, gv, wv, sv⟩ := hI
    rw [e1, e3]
    obtain ⟨nv, ev⟩ := nw.mono hTw gv
    unfold pw_walkOn_43b
    refine ⟨fun hd => ?_, fun hd => ?_⟩
    · have n0 : n = 0 := by omega
      refine hq z v (g.tr gv) wv nv ?_
      rw [ht, e, parts_cl f1, ev, e]
      unfold todo
      rw [sv, n0, List.drop_zero, List.flatMap_append]
      rfl
    · obtain ⟨m, rfl⟩ : ∃ m, n = m + 1 := ⟨n - 1, by omega⟩
      have nz8 := nw.2.1
      refine p_nth gv.1 nv.1 nv.2.1 (by omega) (by omega) (by rw [ev, e, show ((m + 1 : Nat) : Int).toNat = m + 1 by omega]; exact hasIt_ofList l m (by omega)) (fun k k0 k1 ek => ?_)
      rw [ev, e, show ((m + 1 : Nat) : Int).toNat = m + 1 by omega, Ob.item_call] at ek
      have hmem : l.getD m Ob.nil ∈ l := by
        rw [List.getD_eq_getElem?_getD, List.getElem?_eq_getElem (by omega)]
        exact List.getElem_mem (by omega)
      have nk : NdA v ar k := ⟨k0, k1, by rw [ek]; exact (f4 _ hmem).2.mono gv hTw, by rw [ek]; exact (f4 _ hmem).1⟩
      refine p_walkTo gv.1 gv.2.1 wv nk (fun t gt wt st _ => ⟨rfl, m, by omega, by omega, gv.tr gt, wt, ?_⟩)
      rw [st, ek, sv, ← List.cons_append, ← drop_cons l m Ob.nil (by omega)]
  · rw [ht, parts_no (hr.f (Decidable.not_not.mp hc))]
    rfl
theorem p_walk0 [DecidableEq Ob] {a : Int} {Q : iST → Prop} {u : iST} {ar : Ob → Int} (hT : TI u) (hU : TU u) (na : NdA u ar a) (hq : ∀ v, GZ f7W u v → WkO v ar → todo v = Ob.parts (ob u a) → Q v) {w : iST} (ew : w = iI u 76 0) : pw_walkTo a Q w := by
  have g : GZ f7W u w := by
    rw [ew]
    exact GZ_eq (GZ.rf hT hU) (fun k hk => ⟨if_neg (by omega), rfl⟩) rfl (Fx_I (by decide))
  have h76 : w.1 76 = 0 := by rw [ew]; rfl
  clear ew
  obtain ⟨nw, eo⟩ := na.mono hT g
  refine p_walkTo g.1 g.2.1 (ar := ar) ⟨by omega, fun i i0 i1 => by omega⟩ nw (fun v gv wv sv => hq v (g.tr gv) wv ?_)
  unfold todo
  rw [sv, eo]
  unfold stk
  rw [h76]
  show Ob.parts (ob u a) ++ [] = _
  rw [List.append_nil]
theorem todo_nil [DecidableEq Ob] {u : iST} (h : u.1 76 ≤ 0) : todo u = [] := by
  unfold todo stk
  rw [show (u.1 76).toNat = 0 by omega]
  rfl
theorem p_hasCall [DecidableEq Ob] {a f : Int} {Q : Int → iST → Prop} {u : iST} {ar : Ob → Int} (hT : TI u) (hU : TU u) (na : NdA u ar a) (f0 : 0 ≤ f) (f1 : f < u.1 8) (hq : ∀ r v, GZ f7W u v → bq r (Sp.hasCall (ob u a) (ob u f)) → Q r v) : pw_hasCall a f Q u := by
  unfold pw_hasCall
  intro w ew
  refine p_walk0 hT hU na (fun v gv wv tv => ?_) ew
  refine pw_hasCall_10_i (fun x2 v => x2 = f ∧ GZ f7W u v ∧ WkO v ar ∧ Sp.hasCall (ob u a) (ob u f) = (todo v).any (fun x => Ob.isCallOf x (ob u f))) ?_ ⟨rfl, gv, wv, by rw [tv]; rfl⟩
  intro x2 v hI
  obtain ⟨e2, gv, wv, hv⟩ := hI
  rw [e2]
  unfold pw_hasCall_10b
  intro y ey _
  refine ⟨fun hc _ => hq 0 v gv (bq0 (by rw [hv, todo_nil (by omega)]; rfl)), fun hc => ?_⟩
  refine p_walkOn gv.1 gv.2.1 wv (by omega) (fun k t gt wt nk et => ?_)
  have gut := gv.tr gt
  have ef := gut.ob hT f0 f1
  refine p_isCallOf gt.1 gt.2.1 nk.1 nk.2.1 f0 (by have := gut.le; omega) (fun r hr => ?_)
  rw [ef] at hr
  rw [et, List.any_cons] at hv
  refine ⟨fun hz => ⟨rfl, gut, wt, ?_⟩, fun hz _ => hq 1 t gut (bq1 ?_)⟩
  · rw [hv, hr.f hz]; rfl
  · rw [hv, hr.t hz]; rfl
theorem p_hasVariable [DecidableEq Ob] {a f : Int} {Q : Int → iST → Prop} {u : iST} {ar : Ob → Int} (hT : TI u) (hU : TU u) (na : NdA u ar a) (f0 : 0 ≤ f) (f1 : f < u.1 8) (hq : ∀ r v, GZ f7W u v → bq r (Ob.has (Ob.parts (ob u a)) (ob u f)) → Q r v) : pw_hasVariable a f Q u := by
  unfold pw_hasVariable
  intro w ew
  refine p_walk0 hT hU na (fun v gv wv tv => ?_) ew
  refine pw_hasVariable_10_i (fun x2 v => x2 = f ∧ GZ f7W u v ∧ WkO v ar ∧ Ob.has (Ob.parts (ob u a)) (ob u f) = Ob.has (todo v) (ob u f)) ?_ ⟨rfl, gv, wv, by rw [tv]⟩
  intro x2 v hI
  obtain ⟨e2, gv, wv, hv⟩ := hI
  rw [e2]
  unfold pw_hasVariable_10b
  intro y ey _
  refine ⟨fun hc _ => hq 0 v gv (bq0 (by rw [hv, todo_nil (by omega)]; rfl)), fun hc => ?_⟩
  refine p_walkOn gv.1 gv.2.1 wv (by omega) (fun k t gt wt nk et => ?_)
  have gut := gv.tr gt
  have ef := gut.ob hT f0 f1
  have ek := gt.1.inj gt.2.1 nk.1 nk.2.1 f0 (show f < t.1 8 by have := gut.le; omega)
  rw [ef] at ek
  have hv : Ob.has (Ob.parts (ob u a)) (ob u f) = (decide (ob t k = ob u f) || Ob.has (todo t) (ob u f)) := by
    rw [hv, et]; rfl
  refine ⟨fun hz => ⟨rfl, gut, wt, ?_⟩, fun hz _ => hq 1 t gut (bq1 ?_)⟩
  · rw [hv, decide_eq_false (fun z => hz (ek.mp z))]; rfl
  · rw [hv, decide_eq_true (ek.mpr (Decidable.not_not.mp hz))]; rfl
