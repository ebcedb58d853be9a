-- deps: 7584, zmake
/-! the class: rows and negations that are there: nothing is made -/
theorem vl_mk1 [DecidableEq Ob] {f a y : Ob} (h : Vl (Sp.mk1 f a) y) : y = .pr f (.pr a Ob.nil) ∧ Ob.sz (.pr f (.pr a Ob.nil)) ≤ 120 := by
  obtain ⟨n, h⟩ := h
  have h := h (0, 0)
  unfold Sp.mk1 Sp.big at h
  by_cases c : 120 < Ob.sz (.pr f (.pr a Ob.nil))
  · rw [if_pos c] at h; cases h
  · rw [if_neg c] at h
    injection h with h1 h2
    exact ⟨h1.symm, by omega⟩
theorem vl_ret [DecidableEq Ob] {α : Type} {a b : α} (h : Vl (Sp.ret a) b) : b = a := (Vl.ret a).det h |>.symm
theorem pc_negatedX [DecidableEq Ob] {a : Int} {y : Ob} {Q : Int → iST → Prop} {v : iST} {E : Sp.Env} (hT : CT v) (na : NdC v E a) (hv : Vl (Sp.mkNot (oc v a)) y) (hx : ExT v y) (hq : ∀ t, NdC v E t → oc v t = y → Q t v) : pv_10_negated a Q v := by
  unfold Sp.mkNot at hv
  unfold pv_10_negated
  refine pc_isCallK 16 hT na.1 (by decide) (by decide) (o := Ob.not) rfl (fun r1 h1 => ⟨fun z1 => ?_, fun z1 => ?_⟩)
  · rw [if_neg (by rw [h1.f z1]; decide)] at hv
    refine pc_isConstant hT na.1 (fun r2 h2 => ⟨fun z2 => ?_, fun z2 => ?_⟩)
    · have nn : ¬ oc v a = Ob.nil := fun z => by
        have := h2.f z2
        rw [z] at this
        have this : (Ob.isNat Ob.nil || decide (Ob.nil = Ob.nil) || decide (Ob.nil = Ob.t)) = false := this
        rw [decide_eq_true rfl, Bool.or_true] at this
        cases this
      rw [if_neg nn, if_neg (by rw [h2.f z2]; decide)] at hv
      obtain ⟨e, hs⟩ := vl_mk1 hv
      obtain ⟨k0, k1, k2⟩ := knC hT 16 (o := Ob.not) (by decide) (by decide) rfl
      obtain ⟨z0, ze⟩ := VN.zero hT
      unfold pv_10_call
      refine ⟨fun z => absurd rfl z, fun _ => ?_⟩
      unfold pv_10_call_23
      refine ⟨fun z => absurd rfl z, fun _ => ?_⟩
      rw [e] at hx hq
      refine pc_call48X hT ⟨k0, k1⟩ na.1 z0 (by rw [k2, ze]; exact hx) (by rw [k2, ze]; exact hs) (fun t vt et => ?_)
      rw [k2, ze] at et
      refine hq t ⟨vt, ?_, by rw [et]; exact hs⟩ et
      rw [et]
      exact wt_1 (Ob.sym_isSym _) (Ob.sym_ne (by decide)) (arOf_not E) na.2.1
    · have k0 := katC hT 0 (o := Ob.nil) (by decide) (by decide) rfl na.1.1 na.1.2
      refine ⟨fun h0 => ?_, fun h0 => ?_⟩
      · rw [if_neg (fun z => h0 (k0.mpr z)), if_pos (h2.t z2)] at hv
        obtain ⟨nt, et⟩ := NdC.known hT E 0 (o := Ob.nil) (by decide) (by decide) rfl rfl
        exact hq 0 nt (by rw [et, vl_ret hv])
      · rw [if_pos (k0.mp (Decidable.not_not.mp h0))] at hv
        obtain ⟨nt, et⟩ := NdC.known hT E 1 (o := Ob.t) (by decide) (by decide) rfl rfl
        exact hq 1 nt (by rw [et, vl_ret hv])
  · have hc := h1.t z1
    rw [if_pos hc] at hv
    refine pc_item hT na.1 (by decide) (fun t ht et => ?_)
    have et : oc v t = (oc v a).item 1 := et
    exact hq t (na.one hc (Ob.sym_ne (by decide)) (arOf_not E) ht et) (by rw [et, vl_ret hv])
theorem vlN_inv [DecidableEq Ob] {a : Ob} {l xs : List Ob} (h : Vl (Sp.nots (a :: l)) xs) : ∃ x ys, xs = x :: ys ∧ Vl (Sp.mkNot a) x ∧ Vl (Sp.nots l) ys := by
  obtain ⟨n, h⟩ := h
  have e := h (0, 0)
  have e : Sp.bd (Sp.mkNot a) (fun y => Sp.bd (Sp.pay 1) fun _ => Sp.bd (Sp.nots l) fun xs => Sp.ret (y :: xs)) (0, 0) = .ok xs _ := e
  obtain ⟨y, s1, e1, e⟩ := bd_inv e
  obtain ⟨z, s2, e2, e⟩ := bd_inv e
  obtain ⟨ys, s3, e3, e⟩ := bd_inv e
  injection e with q _
  exact ⟨y, ys, q.symm, (dt_not a).vl e1, vl_nots l e3⟩
theorem pc_rowX [DecidableEq Ob] {c : Int} {p : Nat} {ctx : List Ob} {Q : Int → iST → Prop} {v : iST} {E : Sp.Env} (hT : CT v) (hC : ClW v E c) (h32 : v.1 32 = 0) (hv : Vl (Sp.nots ((clC v c).take p ++ (clC v c).drop (p + 1))) ctx) (hx : ExT v (Ob.ofList ctx.reverse)) (hq : ∀ row, CxC v E row ctx → Q row v) : pv_4_rowOfOthers c (p : Int) Q v := by
  have hl := hC.1
  have hlen := clC_len v c
  obtain ⟨z0, z1⟩ := VN.zero hT
  unfold pv_4_rowOfOthers
  refine pv_4_rowOfOthers_5_i (fun x1 x2 x3 x4 y => x1 = c ∧ x2 = (p : Int) ∧ y = v ∧ ∃ k : Nat, x4 = (k : Int) ∧ ∃ D xs, CxC v E x3 D ∧ Vl (Sp.nots (((clC v c).take p).drop k ++ (clC v c).drop (max (p + 1) k))) xs ∧ D ++ xs = ctx) ?_ ⟨rfl, rfl, rfl, 0, rfl, [], ctx, ⟨z0, z1, fun a ha => by cases ha⟩, by simpa using hv, rfl⟩
  rintro x1 x2 x3 x4 y ⟨b1, b2, ey, k, b4, D, xs, cx, hD, eD⟩
  rw [b1, b2, b4, ey]
  unfold pv_4_rowOfOthers_5b
  intro n1 en1 _
  rw [en1]
  refine ⟨fun q => hq x3 ?_, fun q => ?_⟩
  · rw [List.drop_eq_nil_of_le (by rw [List.length_take]; omega), List.drop_eq_nil_of_le (by omega)] at hD
    have : xs = [] := vl_ret (a := ([] : List Ob)) hD
    rw [this, List.append_nil] at eD
    rw [← eD]; exact cx
  intro n2 en2 _
  rw [en2]
  refine ⟨fun z => absurd h32 z, fun _ => ?_⟩
  refine ⟨fun ek _ => ?_, fun ek => ?_⟩
  · have ek : k = p := by omega
    refine ⟨rfl, rfl, rfl, k + 1, by omega, D, xs, cx, ?_, eD⟩
    rw [List.drop_eq_nil_of_le (by rw [List.length_take]; omega)] at hD ⊢
    rw [show max (p + 1) (k + 1) = max (p + 1) k by omega]
    exact hD
  have nek : k ≠ p := by omega
  intro _ _ n4 en4 _
  rw [en4]
  have nd := hC.2.1 (k : Int) (by omega) (by omega)
  have hget : (clC v c)[k]? = some (oc v (v.2.1 49 (30 * c + (k : Int)))) := clC_get (by omega)
  have hrem : ((clC v c).take p).drop k ++ (clC v c).drop (max (p + 1) k) = oc v (v.2.1 49 (30 * c + (k : Int))) :: (((clC v c).take p).drop (k + 1) ++ (clC v c).drop (max (p + 1) (k + 1))) := by
    obtain ⟨hlt, e⟩ := List.getElem?_eq_some_iff.mp hget
    by_cases c1 : k < p
    · rw [show max (p + 1) k = p + 1 by omega, show max (p + 1) (k + 1) = p + 1 by omega, List.drop_eq_getElem_cons (l := (clC v c).take p) (by rw [List.length_take]; omega), List.getElem_take, e]
      rfl
    · rw [List.drop_eq_nil_of_le (as := (clC v c).take p) (i := k) (by rw [List.length_take]; omega), List.drop_eq_nil_of_le (as := (clC v c).take p) (i := k + 1) (by rw [List.length_take]; omega), show max (p + 1) k = k by omega, show max (p + 1) (k + 1) = k + 1 by omega, List.drop_eq_getElem_cons hlt, e]
      rfl
  rw [hrem] at hD
  obtain ⟨x, ys, exs, hx1, hys⟩ := vlN_inv hD
  have ectx : (D ++ [x]) ++ ys = ctx := by rw [List.append_assoc]; rw [exs] at eD; exact eD
  have hxx : ExT v x := ExT.row hT _ hx x (by
    rw [Ob.toList_ofList, List.mem_reverse, ← ectx]
    exact List.mem_append_left _ (List.mem_append_right _ List.mem_cons_self))
  refine pc_negatedX hT nd hx1 hxx (fun t nt et => ?_)
  have hpr : Ob.pr (oc v t) (oc v x3) = Ob.ofList ((D ++ [x]).reverse) := by
    rw [et, cx.2.1, List.reverse_append]
    rfl
  have hxr : ExT v (Ob.pr (oc v t) (oc v x3)) := by
    have h := ExT.drop hT ctx.reverse ys.length hx
    have e : ctx.reverse.drop ys.length = (D ++ [x]).reverse := by
      rw [← ectx, List.reverse_append, List.drop_append_of_le_length (by rw [List.length_reverse]; exact Nat.le_refl _), List.drop_of_length_le (by rw [List.length_reverse]; exact Nat.le_refl _)]
      rfl
    rw [e] at h
    rw [hpr]
    exact h
  refine pc_pairX hT nt.1 cx.1 hxr (fun kk vk ek _ => ?_)
  refine ⟨rfl, rfl, rfl, k + 1, by omega, D ++ [x], ys, ?_, hys, ectx⟩
  have := cx.add nt vk ek
  rw [et] at this
  exact this
theorem foldl_putL_in [DecidableEq Ob] : ∀ (l acc : List Ob) (y : Ob), (y ∈ acc ∨ y ∈ l) → y ∈ l.foldl Sp.putL acc
  | [], acc, y, h => h.resolve_right (fun q => by cases q)
  | a :: l, acc, y, h => by
    refine foldl_putL_in l (Sp.putL acc a) y ?_
    rcases h with q | q
    · left
      unfold Sp.putL
      split
      · exact q
      · exact List.mem_append_left _ q
    · rcases List.mem_cons.mp q with q | q
      · left
        rw [q]
        unfold Sp.putL
        split
        · rename_i h2; exact Ob.has_iff.mp h2
        · exact List.mem_append_right _ List.mem_cons_self
      · exact Or.inr q
theorem splitC_inv [DecidableEq Ob] {pre post : List Ob} {v : Ob} {rd : Nat} {o : Sp.Out} (h : Vl (Sp.splitC pre post v rd) o) : ∃ A B C, Vl (Sp.mkNot (Ob.item (Sp.ifIn v) 1)) A ∧ Vl (if Ob.isCallOf v Ob.not then Sp.mkNot (Ob.item (Sp.ifIn v) 2) else Sp.ret (Ob.item (Sp.ifIn v) 2)) B ∧ Vl (if Ob.isCallOf v Ob.not then Sp.mkNot (Ob.item (Sp.ifIn v) 3) else Sp.ret (Ob.item (Sp.ifIn v) 3)) C ∧ Sp.bnd ((pre ++ [A, B] ++ post).foldl Sp.putL []) = true ∧ Sp.bnd ((pre ++ [Ob.item (Sp.ifIn v) 1, C] ++ post).foldl Sp.putL []) = true ∧ o = some (.inl (((pre ++ [A, B] ++ post).foldl Sp.putL [], rd + 1), ((pre ++ [Ob.item (Sp.ifIn v) 1, C] ++ post).foldl Sp.putL [], rd + 1))) := by
  obtain ⟨n, h⟩ := h
  have e := h (0, 0)
  unfold Sp.splitC at e
  obtain ⟨b, s1, e1, e⟩ := bd_inv e
  obtain ⟨c, s2, e2, e⟩ := bd_inv e
  obtain ⟨a, s3, e3, e⟩ := bd_inv e
  obtain ⟨x, s4, e4, e⟩ := bd_inv e
  obtain ⟨y, s5, e5, e⟩ := bd_inv e
  injection e with q _
  have dn : ∀ (p : Bool) (o : Ob), Dt (if p = true then Sp.mkNot o else Sp.ret o) := fun p o => by
    cases p
    · exact dt_ret o
    · exact dt_not o
  have bx : ∀ {l x : List Ob} {s s' : Sp.Wk}, Sp.bounded l s = .ok x s' → Sp.bnd l = true ∧ x = l := fun {l x s s'} e => by
    rcases dt_bounded l with ⟨q, h⟩ | ⟨_, h⟩
    · have z := (h s).symm.trans e
      injection z with z1 _
      exact ⟨q, z1.symm⟩
    · have z := (h s).symm.trans e
      cases z
  obtain ⟨f1, f2⟩ := bx e4
  obtain ⟨g1, g2⟩ := bx e5
  exact ⟨a, b, c, (dt_not _).vl e3, (dn _ _).vl e1, (dn _ _).vl e2, f1, g1, by rw [← q, f2, g2]⟩
