-- deps: 550
/-! the specification alone: a conclusion is a row of different, small terms -/
def RetP [DecidableEq Ob] {α : Type} (m : Sp.M α) (P : α → Prop) : Prop := ∀ s a s', m s = .ok a s' → P a
theorem RetP.bd [DecidableEq Ob] {α β : Type} {m : Sp.M α} {f : α → Sp.M β} {P : α → Prop} {Q : β → Prop} (h : RetP m P) (g : ∀ a, P a → RetP (f a) Q) : RetP (Sp.bd m f) Q := by
  intro s b s' e
  cases em : m s with
  | ok a s1 => rw [bind_ok em] at e; exact g a (h s a s1 em) s1 b s' e
  | error x s1 => rw [bind_err em] at e; cases e
theorem RetP.ret [DecidableEq Ob] {α : Type} {a : α} {P : α → Prop} (h : P a) : RetP (Sp.ret a) P := by
  intro s b s' e
  unfold Sp.ret at e
  injection e with e1 e2
  rw [← e1]; exact h
theorem RetP.fail [DecidableEq Ob] {α : Type} {P : α → Prop} : RetP (Sp.fail) P := by
  intro s b s' e
  unfold Sp.fail at e
  cases e
theorem RetP.any [DecidableEq Ob] {α : Type} {m : Sp.M α} : RetP m (fun _ => True) := fun _ _ _ _ => trivial
theorem RetP.big [DecidableEq Ob] {o : Ob} {n : Nat} : RetP (Sp.big o n) (fun x => x.sz ≤ 120) := by
  intro s a s' e
  unfold Sp.big at e
  split at e
  · cases e
  · next h =>
    injection e with e1 e2
    rw [← e1]; omega
theorem item_sz [DecidableEq Ob] {o f : Ob} (h : Ob.isCallOf o f = true) (hf : f ≠ Ob.quote) : (Ob.item o 1).sz ≤ o.sz := by
  cases o with
  | var x => cases h
  | op a b =>
    have ea : a = f := of_decide_eq_true h
    have hq : ¬ a = Ob.quote := fun z => hf (ea.symm.trans z)
    have e : Ob.sz (.op a b) = 1 + Ob.szM true b := if_neg hq
    rw [e]
    cases b with
    | var z =>
      show (1 : Int) ≤ 1 + 0
      decide
    | op x r =>
      show Ob.szM false x ≤ 1 + (Ob.szM false x + Ob.szM true r)
      have := (Ob.szM_pos true r).1
      omega
theorem RetP.not [DecidableEq Ob] {o : Ob} (h : o.sz ≤ 120) : RetP (Sp.mkNot o) (fun x => x.sz ≤ 120) := by
  unfold Sp.mkNot
  split
  · next c => exact RetP.ret (Int.le_trans (item_sz c (Ob.sym_ne (by decide))) h)
  · split
    · exact RetP.ret (show (1 : Int) ≤ 120 by decide)
    · split
      · exact RetP.ret (show (1 : Int) ≤ 120 by decide)
      · exact RetP.big
def GdL [DecidableEq Ob] (l : List Ob) : Prop := l.Nodup ∧ ∀ y, y ∈ l → y.sz ≤ 120
theorem GdL.nil [DecidableEq Ob] : GdL [] := ⟨List.nodup_nil, fun y hy => by cases hy⟩
theorem GdL.one [DecidableEq Ob] {x : Ob} (h : x.sz ≤ 120) : GdL [x] := ⟨List.nodup_cons.mpr ⟨(fun z => by cases z), List.nodup_nil⟩, fun y hy => by rcases List.mem_cons.mp hy with q | q; (rw [q]; exact h); cases q⟩
theorem GdL.put [DecidableEq Ob] {l : List Ob} {x : Ob} (h : GdL l) (hx : x.sz ≤ 120) : GdL (Sp.putL l x) := by
  unfold Sp.putL
  split
  · exact h
  · next c =>
    have c : ¬ x ∈ l := fun z => c (Ob.has_iff.mpr z)
    refine ⟨?_, fun y hy => ?_⟩
    · rw [List.nodup_append]
      refine ⟨h.1, (GdL.one hx).1, fun a ha b hb e => ?_⟩
      rcases List.mem_cons.mp hb with q | q
      · exact c (by rw [← q, ← e]; exact ha)
      · cases q
    · rcases List.mem_append.mp hy with q | q
      · exact h.2 y q
      · exact (GdL.one hx).2 y q
theorem GdL.fold [DecidableEq Ob] : ∀ {l acc : List Ob}, GdL acc → (∀ x, x ∈ l → x.sz ≤ 120) → GdL (l.foldl Sp.putL acc)
  | [], _, h, _ => h
  | a :: l, acc, h, hl => GdL.fold (l := l) (h.put (hl a List.mem_cons_self)) (fun x hx => hl x (List.mem_cons_of_mem _ hx))
theorem GdL.fills [DecidableEq Ob] {f : Ob → Sp.M Ob} (hf : ∀ a, RetP (f a) (fun x => x.sz ≤ 120)) : ∀ (as l : List Ob), GdL l → RetP (Sp.fills f as l) GdL
  | [], _, h => RetP.ret h
  | a :: as, l, h => (hf a).bd (fun x hx => GdL.fills hf as (Sp.putL l x) (h.put hx))
theorem rdT_sz [DecidableEq Ob] {ar : Ob → Int} {o x : Ob} (h : Ob.rdT ar o = some x) : x.sz ≤ 120 := by
  unfold Ob.rdT at h
  split at h
  · split at h
    · next c => injection h with h; rw [← h]; exact c
    · cases h
  · cases h
theorem rdD_sz [DecidableEq Ob] {E : Sp.Env} {o : Ob} {n : Nat} : ((Sp.rdAt E o n).getD Ob.nil).sz ≤ 120 := by
  cases e : Sp.rdAt E o n with
  | none => show (1 : Int) ≤ 120; decide
  | some x => exact rdT_sz e
theorem getD_gd [DecidableEq Ob] {cs : List (List Ob)} (h : ∀ c, c ∈ cs → GdL c) (i : Nat) : GdL (cs.getD i []) := by
  rw [List.getD_eq_getElem?_getD]
  cases e : cs[i]? with
  | none => exact GdL.nil
  | some c => exact h c (List.mem_of_getElem? e)
theorem concl_gd [DecidableEq Ob] {E : Sp.Env} {o : Ob} {cs : List (List Ob)} (hT : ∀ n k, E.thmOf n = some k → k.form.sz ≤ 120) (hcs : ∀ c, c ∈ cs → GdL c) (hf : Sp.isForm E o = true) : RetP (Sp.concl E o cs) GdL := by
  have P := getD_gd hcs 0
  have Q := getD_gd hcs 1
  by_cases c0 : Ob.lft o = Ob.taut
  · rw [concl_taut c0]; exact (RetP.not rdD_sz).bd (fun x hx => RetP.ret ((GdL.one rdD_sz).put hx))
  by_cases c1 : Ob.lft o = Ob.same
  · rw [concl_same c1]; exact RetP.big.bd (fun x hx => RetP.ret (GdL.one hx))
  by_cases c2 : Ob.lft o = Ob.value
  · rw [concl_value c2]; exact RetP.any.bd (fun _ _ => RetP.big.bd (fun x hx => RetP.ret (GdL.one hx)))
  by_cases c3 : Ob.lft o = Ob.first
  · rw [concl_first c3]; exact RetP.big.bd (fun _ _ => RetP.big.bd (fun _ _ => RetP.big.bd (fun x hx => RetP.ret (GdL.one hx))))
  by_cases c4 : Ob.lft o = Ob.second
  · rw [concl_second c4]; exact RetP.big.bd (fun _ _ => RetP.big.bd (fun _ _ => RetP.big.bd (fun x hx => RetP.ret (GdL.one hx))))
  by_cases c5 : Ob.lft o = Ob.pair
  · rw [concl_pair c5]; exact RetP.big.bd (fun _ _ => RetP.big.bd (fun x hx => RetP.ret (GdL.one hx)))
  by_cases c6 : Ob.lft o = Ob.yes
  · rw [concl_yes c6]; exact (RetP.not rdD_sz).bd (fun n hn => RetP.big.bd (fun _ _ => RetP.big.bd (fun x hx => RetP.ret ((GdL.one hn).put hx))))
  by_cases c7 : Ob.lft o = Ob.no
  · rw [concl_no c7]; exact RetP.big.bd (fun _ _ => RetP.big.bd (fun x hx => RetP.ret ((GdL.one rdD_sz).put hx)))
  by_cases c8 : Ob.lft o = Ob.defS
  · rw [concl_defS c8]
    split
    · exact RetP.big.bd (fun x hx => RetP.ret (GdL.one hx))
    · exact RetP.fail
  by_cases c9 : Ob.lft o = Ob.thm
  · rw [concl_thm c9]
    split
    · next k e => exact RetP.ret (GdL.one (hT _ k e))
    · exact RetP.fail
  by_cases d0 : Ob.lft o = Ob.weak
  · rw [concl_weak d0]
    refine RetP.ret (P.fold (fun x hx => ?_))
    obtain ⟨y, _, ey⟩ := List.mem_filterMap.mp hx
    exact rdT_sz ey
  by_cases d1 : Ob.lft o = Ob.cut
  · rw [concl_cut d1]
    split
    · refine RetP.ret (GdL.nil.fold (fun x hx => ?_))
      rcases List.mem_append.mp hx with q | q
      · exact P.2 x ((List.mem_filter.mp q).1)
      · exact Q.2 x ((List.mem_filter.mp q).1)
    · exact RetP.fail
  by_cases d2 : Ob.lft o = Ob.inst
  · rw [concl_inst d2]
    exact GdL.fills (fun a => RetP.big) _ _ GdL.nil
  by_cases d3 : Ob.lft o = Ob.swap
  · rw [concl_swap d3]
    cases e : cs.getD 0 [] with
    | nil => exact RetP.fail
    | cons a l =>
      rw [e] at P
      show RetP (if Ob.isCallOf a Ob.equal then _ else _) GdL
      split
      · exact RetP.big.bd (fun x hx => RetP.ret ((GdL.one hx).fold (fun y hy => P.2 y (List.mem_cons_of_mem _ hy))))
      · exact RetP.fail
  by_cases d4 : Ob.lft o = Ob.put
  · rw [concl_put d4]
    cases e : cs.getD 0 [] with
    | nil => exact RetP.fail
    | cons a l =>
      rw [e] at P
      show RetP (if Ob.isCallOf a Ob.equal then _ else _) GdL
      split
      · exact (GdL.fills (fun a => RetP.big) _ _ GdL.nil).bd (fun x hx => RetP.ret (hx.fold (fun y hy => P.2 y (List.mem_cons_of_mem _ hy))))
      · exact RetP.fail
  by_cases d5 : Ob.lft o = Ob.induct
  · rw [concl_induct d5]
    split
    · exact RetP.any.bd (fun _ _ => RetP.ret (GdL.one rdD_sz))
    · exact RetP.fail
  rw [isForm_else (fun z => z.elim c0 c1) c2 (fun z => z.elim c3 (fun z => z.elim c4 c5)) (fun z => z.elim c6 c7) c8 c9 d0 d1 d2 d3 d4 d5] at hf
  cases hf
theorem bounded_gd [DecidableEq Ob] {l : List Ob} (h : GdL l) : RetP (Sp.bounded l) (fun l => GdL l ∧ l.length ≤ 30) := by
  unfold Sp.bounded
  split
  · next c =>
    unfold Sp.bnd at c
    rw [Bool.and_eq_true, decide_eq_true_eq] at c
    exact RetP.ret ⟨h, c.1⟩
  · exact RetP.fail
theorem pfParts_gd [DecidableEq Ob] {r : Ob → Sp.M (List Ob)} (h : ∀ o, RetP (r o) (fun l => GdL l ∧ l.length ≤ 30)) : ∀ ps : List Ob, RetP (Sp.pfParts r ps) (fun cs => cs.length = ps.length ∧ ∀ c, c ∈ cs → GdL c)
  | [] => RetP.ret ⟨rfl, fun c hc => by cases hc⟩
  | a :: l => (h a).bd (fun c hc => (pfParts_gd h l).bd (fun cs hcs => RetP.ret ⟨by rw [List.length_cons, hcs.1, List.length_cons], fun x hx => by
      rcases List.mem_cons.mp hx with q | q
      · rw [q]; exact hc.1
      · exact hcs.2 x q⟩))
theorem pf_gd [DecidableEq Ob] {E : Sp.Env} (hT : ∀ n k, E.thmOf n = some k → k.form.sz ≤ 120) : ∀ (d : Nat) (o : Ob), RetP (Sp.pf E d o) (fun l => GdL l ∧ l.length ≤ 30)
  | 0, _ => RetP.fail
  | d + 1, o => RetP.any.bd (fun _ _ => by
      show RetP (if Sp.isForm E o then _ else _) _
      split
      · next hf => exact (pfParts_gd (pf_gd hT d) (Sp.partsOf o)).bd (fun cs hcs => (concl_gd hT hcs.2 hf).bd (fun l hl => bounded_gd hl))
      · exact RetP.fail)
