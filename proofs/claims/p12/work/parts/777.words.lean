-- deps: 776
/-! words: what an object takes at least when it is written -/
def nwd [DecidableEq Ob] : Bool → Ob → Int
  | false, .op a b => match b with
    | .op x c => if a = Ob.quote ∧ c = Ob.nil then 1 + nwd false x else 1 + nwd false a + nwd true (.op x c)
    | .var y => 1 + nwd false a + nwd true (.var y)
  | false, .var _ => 1
  | true, .op a b => nwd false a + nwd true b
  | true, .var x => if .var x = Ob.nil then 1 else 3
theorem nwd_pos [DecidableEq Ob] : ∀ (m : Bool) (o : Ob), 1 ≤ nwd m o
  | false, .op a (.op x c) => by
    have h1 := nwd_pos false a
    have h2 := nwd_pos false x
    have h3 := nwd_pos true (.op x c)
    show 1 ≤ (if a = Ob.quote ∧ c = Ob.nil then 1 + nwd false x else 1 + nwd false a + nwd true (.op x c))
    split <;> omega
  | false, .op a (.var y) => by
    have h1 := nwd_pos false a
    have h3 := nwd_pos true (.var y)
    show 1 ≤ 1 + nwd false a + nwd true (.var y)
    omega
  | false, .var _ => Int.le_refl _
  | true, .op a b => by
    have h1 := nwd_pos false a
    have h3 := nwd_pos true b
    show 1 ≤ nwd false a + nwd true b
    omega
  | true, .var x => by
    show 1 ≤ (if .var x = Ob.nil then (1 : Int) else 3)
    split <;> decide
theorem nwd_call [DecidableEq Ob] {a b : Ob} (h : a ≠ Ob.quote) : nwd false (.op a b) = 1 + nwd false a + nwd true b := by
  cases b with
  | var y => rfl
  | op x c =>
    show (if a = Ob.quote ∧ c = Ob.nil then 1 + nwd false x else 1 + nwd false a + nwd true (.op x c)) = _
    rw [if_neg (fun q => h q.1)]
theorem npr_nwd [DecidableEq Ob] : ∀ (m : Bool) (o : Ob), npr o + (if m = true then 0 else 1) ≤ 2 * nwd m o
  | false, .op a (.op x c) => by
    have h1 : npr a + 1 ≤ 2 * nwd false a := npr_nwd false a
    have h2 : npr x + 1 ≤ 2 * nwd false x := npr_nwd false x
    have h3 : npr (.op x c) + 0 ≤ 2 * nwd true (.op x c) := npr_nwd true (.op x c)
    show 1 + npr a + npr (.op x c) + 1 ≤ 2 * (if a = Ob.quote ∧ c = Ob.nil then 1 + nwd false x else 1 + nwd false a + nwd true (.op x c))
    split
    · next q =>
      have e1 : npr a = 0 := by rw [q.1]; rfl
      have e2 : npr (.op x c) = 1 + npr x + 0 := by
        rw [q.2]
        rfl
      omega
    · omega
  | false, .op a (.var y) => by
    have h1 : npr a + 1 ≤ 2 * nwd false a := npr_nwd false a
    have h3 := nwd_pos true (.var y)
    show 1 + npr a + 0 + 1 ≤ 2 * (1 + nwd false a + nwd true (.var y))
    omega
  | false, .var _ => by show (0 : Int) + 1 ≤ 2 * 1; decide
  | true, .op a b => by
    have h1 : npr a + 1 ≤ 2 * nwd false a := npr_nwd false a
    have h3 : npr b + 0 ≤ 2 * nwd true b := npr_nwd true b
    show 1 + npr a + npr b + 0 ≤ 2 * (nwd false a + nwd true b)
    omega
  | true, .var x => by
    have := nwd_pos true (.var x)
    show (0 : Int) + 0 ≤ 2 * nwd true (.var x)
    omega
def nwdL [DecidableEq Ob] : List Ob → Int | [] => 0 | a :: l => nwd false a + nwdL l
theorem nwdL_len [DecidableEq Ob] : ∀ l : List Ob, (l.length : Int) ≤ nwdL l
  | [] => Int.le_refl _
  | a :: l => by
    have h1 := nwd_pos false a
    have h2 := nwdL_len l
    show ((l.length + 1 : Nat) : Int) ≤ nwd false a + nwdL l
    omega
theorem nwdL_app [DecidableEq Ob] : ∀ a b : List Ob, nwdL (a ++ b) = nwdL a + nwdL b
  | [], b => by show nwdL b = 0 + nwdL b; omega
  | x :: a, b => by
    have := nwdL_app a b
    show nwd false x + nwdL (a ++ b) = nwd false x + nwdL a + nwdL b
    omega
theorem nwd_list [DecidableEq Ob] : ∀ o : Ob, nwdL (Ob.toList o) + 1 ≤ nwd true o
  | .op a b => by
    have := nwd_list b
    show nwd false a + nwdL (Ob.toList b) + 1 ≤ nwd false a + nwd true b
    omega
  | .var x => by
    have := nwd_pos true (.var x)
    show (0 : Int) + 1 ≤ nwd true (.var x)
    omega
theorem nwd_in [DecidableEq Ob] : ∀ (o p : Ob), p ∈ Ob.toList o → nwd false p ≤ nwd true o
  | .op q l, p, h => by
    have h0 := nwd_pos true l
    have h1 := nwd_pos false q
    show nwd false p ≤ nwd false q + nwd true l
    rcases List.mem_cons.mp h with e | e
    · rw [e]; omega
    · have := nwd_in l p e; omega
  | .var _, p, h => by cases h
theorem nwd_tl [DecidableEq Ob] (o : Ob) : nwd true o ≤ nwd false o + 2 := by
  cases o with
  | var x =>
    show (if .var x = Ob.nil then (1 : Int) else 3) ≤ 1 + 2
    split <;> decide
  | op a b =>
    cases b with
    | var y => show nwd false a + nwd true (.var y) ≤ 1 + nwd false a + nwd true (.var y) + 2; omega
    | op x c =>
      show nwd false a + (nwd false x + nwd true c) ≤ (if a = Ob.quote ∧ c = Ob.nil then 1 + nwd false x else 1 + nwd false a + nwd true (.op x c)) + 2
      split
      · next q =>
        have e1 : nwd false a = 1 := by rw [q.1]; rfl
        have e2 : nwd true c = 1 := by
          rw [q.2]
          show (if Ob.nil = Ob.nil then (1 : Int) else 3) = 1
          exact if_pos rfl
        omega
      · show nwd false a + (nwd false x + nwd true c) ≤ 1 + nwd false a + (nwd false x + nwd true c) + 2
        omega
/-- a form takes its parts and three words at least; four -/
theorem nwd_form [DecidableEq Ob] {E : Sp.Env} {o : Ob} (h : Sp.isForm E o = true) : nwdL (Sp.partsOf o) + 3 ≤ nwd false o ∧ 4 ≤ nwd false o := by
  have l2 := (isForm_says h).1
  cases o with
  | var x =>
    rw [Ob.len_var] at l2
    split at l2 <;> omega
  | op f b =>
    have hq : f ≠ Ob.quote := fun q => by
      have : Sp.isForm E (.op f b) = false := by
        have e : Ob.lft (.op f b) = Ob.quote := q
        refine isForm_else ?_ ?_ ?_ ?_ ?_ ?_ ?_ ?_ ?_ ?_ ?_ ?_
        · exact fun z => z.elim (fun z => absurd (e.symm.trans z) (Ob.sym_ne (by decide))) (fun z => absurd (e.symm.trans z) (Ob.sym_ne (by decide)))
        · exact fun z => absurd (e.symm.trans z) (Ob.sym_ne (by decide))
        · exact fun z => z.elim (fun z => absurd (e.symm.trans z) (Ob.sym_ne (by decide))) (fun z => z.elim (fun z => absurd (e.symm.trans z) (Ob.sym_ne (by decide))) (fun z => absurd (e.symm.trans z) (Ob.sym_ne (by decide))))
        · exact fun z => z.elim (fun z => absurd (e.symm.trans z) (Ob.sym_ne (by decide))) (fun z => absurd (e.symm.trans z) (Ob.sym_ne (by decide)))
        · exact fun z => absurd (e.symm.trans z) (Ob.sym_ne (by decide))
        · exact fun z => absurd (e.symm.trans z) (Ob.sym_ne (by decide))
        · exact fun z => absurd (e.symm.trans z) (Ob.sym_ne (by decide))
        · exact fun z => absurd (e.symm.trans z) (Ob.sym_ne (by decide))
        · exact fun z => absurd (e.symm.trans z) (Ob.sym_ne (by decide))
        · exact fun z => absurd (e.symm.trans z) (Ob.sym_ne (by decide))
        · exact fun z => absurd (e.symm.trans z) (Ob.sym_ne (by decide))
        · exact fun z => absurd (e.symm.trans z) (Ob.sym_ne (by decide))
      rw [this] at h
      cases h
    have hl : Ob.len b ≠ -1 := fun q => by
      rw [Ob.len_pr, if_pos q] at l2
      omega
    have eb : (Ob.toList b).length = (Ob.len b).toNat := by
      have := Ob.len_toList hl
      omega
    have lb : Ob.len (.op f b) = Ob.len b + 1 := by rw [Ob.len_pr, if_neg hl]
    rw [nwd_call hq]
    have f1 := nwd_pos false f
    have nb := nwd_list b
    have nl := nwdL_len (Ob.toList b)
    have sub : nwdL (Sp.partsOf (.op f b)) ≤ nwdL (Ob.toList b) := by
      generalize hL : Ob.toList b = L at eb nl
      have it : ∀ k : Nat, Ob.item (.op f b) (k + 1) = L.getD k Ob.nil := fun k => by
        show Ob.item b k = _
        rw [Ob.item_get, hL]
      have p0 := nwdL_len L
      by_cases c1 : f = Ob.weak
      · rw [ptsC_weak (o := .op f b) c1]
        rw [isForm_weak (o := .op f b) c1, Bool.and_eq_true_iff, Bool.and_eq_true_iff, beq_iff_eq] at h
        have hl3 : L.length = 2 := by omega
        match L, hl3 with
        | [x, y], _ =>
          have := nwd_pos false x
          show nwd false (Ob.item (.op f b) (1 + 1)) + 0 ≤ _
          rw [it 1]
          show nwd false y + 0 ≤ nwd false x + (nwd false y + 0)
          omega
      by_cases c2 : f = Ob.cut
      · rw [ptsC_cut (o := .op f b) c2]
        rw [isForm_cut (o := .op f b) c2, Bool.and_eq_true_iff, beq_iff_eq] at h
        have hl3 : L.length = 3 := by omega
        match L, hl3 with
        | [x, y, z], _ =>
          have := nwd_pos false x
          show nwd false (Ob.item (.op f b) (1 + 1)) + (nwd false (Ob.item (.op f b) (2 + 1)) + 0) ≤ _
          rw [it 1, it 2]
          show nwd false y + (nwd false z + 0) ≤ nwd false x + (nwd false y + (nwd false z + 0))
          omega
      by_cases c3 : f = Ob.inst ∨ f = Ob.swap
      · have e : Sp.partsOf (.op f b) = [Ob.item (.op f b) 1] := by
          rcases c3 with c3 | c3
          · exact ptsC_inst (o := .op f b) c3
          · exact ptsC_swap (o := .op f b) c3
        rw [e]
        match L, (show 1 ≤ L.length by omega) with
        | x :: L', _ =>
          have := nwdL_len L'
          show nwd false (Ob.item (.op f b) (0 + 1)) + 0 ≤ _
          rw [it 0]
          show nwd false x + 0 ≤ nwd false x + nwdL L'
          omega
      by_cases c4 : f = Ob.put
      · rw [ptsC_put (o := .op f b) c4]
        rw [isForm_put (o := .op f b) c4, beq_iff_eq] at h
        have hl3 : L.length = 2 := by omega
        match L, hl3 with
        | [x, y], _ =>
          show nwd false (Ob.item (.op f b) (0 + 1)) + (nwd false (Ob.item (.op f b) (1 + 1)) + 0) ≤ _
          rw [it 0, it 1]
          exact Int.le_refl _
      by_cases c5 : f = Ob.induct
      · rw [ptsC_induct (o := .op f b) c5]
        have e : (Ob.toList (.op f b)).drop 3 = L.drop 2 := by
          show (f :: Ob.toList b).drop 3 = _
          rw [hL]
          rfl
        rw [e]
        have h1 := nwdL_app (L.take 2) (L.drop 2)
        have h2 := nwdL_len (L.take 2)
        rw [List.take_append_drop] at h1
        omega
      · unfold Sp.partsOf
        rw [if_neg (show ¬ Ob.lft (.op f b) = Ob.weak from c1), if_neg (show ¬ Ob.lft (.op f b) = Ob.cut from c2), if_neg (show ¬ (Ob.lft (.op f b) = Ob.inst ∨ Ob.lft (.op f b) = Ob.swap) from c3), if_neg (show ¬ Ob.lft (.op f b) = Ob.put from c4), if_neg (show ¬ Ob.lft (.op f b) = Ob.induct from c5)]
        show (0 : Int) ≤ _
        omega
    constructor <;> omega
/-- a list of (x T) of so many words has not too many of them -/
theorem pairs_nwd [DecidableEq Ob] {E : Sp.Env} : ∀ (l : List Ob) (acc ps : List (Ob × Ob)), Sp.pairsGo E l acc = some ps → 4 * (l.length : Int) ≤ nwdL l + (if Ob.lk acc Ob.quote = none then 2 else 0)
  | [], acc, ps, _ => by
    show 4 * ((0 : Nat) : Int) ≤ 0 + (if Ob.lk acc Ob.quote = none then 2 else 0)
    split <;> omega
  | p :: l, acc, ps, h => by
    rw [pairsGo_cons] at h
    by_cases c : Ob.len p = 2 ∧ Ob.isVar (Ob.lft p) = true ∧ Ob.lk acc (Ob.lft p) = none
    · rw [if_pos c] at h
      cases e : Ob.rdT (Sp.arOf E) (Ob.item p 1) with
      | none => rw [e] at h; cases h
      | some T =>
        rw [e] at h
        have ih := pairs_nwd l _ ps h
        show 4 * ((l.length + 1 : Nat) : Int) ≤ nwd false p + nwdL l + (if Ob.lk acc Ob.quote = none then 2 else 0)
        cases p with
        | var x => rw [Ob.len_var] at c; have := c.1; split at this <;> omega
        | op x b =>
          have hl : Ob.len b = 1 := by
            have := c.1
            rw [Ob.len_pr] at this
            split at this <;> omega
          cases b with
          | var y => rw [Ob.len_var] at hl; split at hl <;> omega
          | op y d =>
            have hy := nwd_pos false y
            by_cases q : x = Ob.quote
            · have hn : Ob.lk acc Ob.quote = none := by rw [← q]; exact c.2.2
              have hd : 2 ≤ nwd false (.op x (.op y d)) := by
                have h1 := nwd_pos false x
                have h2 := nwd_pos true (.op y d)
                show 2 ≤ (if x = Ob.quote ∧ d = Ob.nil then 1 + nwd false y else 1 + nwd false x + nwd true (.op y d))
                split <;> omega
              have e2 : Ob.lk (acc ++ [(Ob.lft (.op x (.op y d)), T)]) Ob.quote = some T := by
                have hx : Ob.lft (.op x (.op y d)) = Ob.quote := q
                rw [lk_app, hn, hx]
                exact if_pos rfl
              rw [e2] at ih
              rw [hn, if_pos rfl]
              have ih : 4 * (l.length : Int) ≤ nwdL l + 0 := ih
              omega
            · have e3 : nwd false (.op x (.op y d)) = 1 + nwd false x + (nwd false y + nwd true d) := nwd_call q
              have h1 := nwd_pos false x
              have h2 := nwd_pos true d
              have e2 : Ob.lk (acc ++ [(Ob.lft (.op x (.op y d)), T)]) Ob.quote = Ob.lk acc Ob.quote := by
                rw [lk_app]
                cases e4 : Ob.lk acc Ob.quote with
                | some z => rfl
                | none =>
                  show (if x = Ob.quote then some T else none) = none
                  exact if_neg q
              rw [e2] at ih
              rw [e3]
              omega
    · rw [if_neg c] at h; cases h
theorem prB_nwd [DecidableEq Ob] {E : Sp.Env} {o : Ob} (h : nwd true o ≤ 1010) : PrB E (Ob.toList o) := fun i ps hi hp => by
  have h1 := pairs_nwd _ _ _ hp
  have h2 := nwd_list o
  have h3 : nwdL ((Ob.toList o).take i) ≤ nwdL (Ob.toList o) := by
    have a := nwdL_app ((Ob.toList o).take i) ((Ob.toList o).drop i)
    have b := nwdL_len ((Ob.toList o).drop i)
    rw [List.take_append_drop] at a
    omega
  have h4 : ((Ob.toList o).take i).length = i := by rw [List.length_take]; omega
  rw [h4] at h1
  have h1 : 4 * (i : Int) ≤ nwdL ((Ob.toList o).take i) + 2 := h1
  omega
theorem nwd_rr [DecidableEq Ob] (o : Ob) : nwd true (Ob.rgt (Ob.rgt o)) ≤ nwd false o + 2 := by
  have rg : ∀ x : Ob, nwd true (Ob.rgt x) ≤ nwd true x := fun x => by
    cases x with
    | var y =>
      have := nwd_pos true (.var y)
      show (if Ob.nil = Ob.nil then (1 : Int) else 3) ≤ _
      rw [if_pos rfl]
      exact this
    | op a b =>
      have := nwd_pos false a
      show nwd true b ≤ nwd false a + nwd true b
      omega
  have h1 := rg (Ob.rgt o)
  have h2 := rg o
  have h3 := nwd_tl o
  omega
