-- deps: 799892
/-! what the clauses of a theorem and of a definition make at most -/
/-- sums over lists without repetition -/
def smL [DecidableEq Ob] (h : Ob → Int) : List Ob → Int | [] => 0 | a :: l => h a + smL h l
theorem smL_pos [DecidableEq Ob] {h : Ob → Int} (h0 : ∀ x, 0 ≤ h x) : ∀ l : List Ob, 0 ≤ smL h l
  | [] => Int.le_refl _
  | a :: l => by
    have := h0 a
    have := smL_pos h0 l
    show 0 ≤ h a + smL h l
    omega
theorem smL_filter [DecidableEq Ob] {h : Ob → Int} (h0 : ∀ x, 0 ≤ h x) (a : Ob) : ∀ l : List Ob, a ∈ l → h a + smL h (l.filter (fun x => decide (x ≠ a))) ≤ smL h l
  | [], hm => by cases hm
  | b :: l, hm => by
    show h a + smL h ((b :: l).filter (fun x => decide (x ≠ a))) ≤ h b + smL h l
    have hle : smL h (l.filter (fun x => decide (x ≠ a))) ≤ smL h l := by
      have gen : ∀ m : List Ob, smL h (m.filter (fun x => decide (x ≠ a))) ≤ smL h m := by
        intro m
        induction m with
        | nil => exact Int.le_refl _
        | cons c m ih =>
          have := h0 c
          rw [List.filter_cons]
          split
          · show h c + smL h (m.filter (fun x => decide (x ≠ a))) ≤ h c + smL h m
            omega
          · show smL h (m.filter (fun x => decide (x ≠ a))) ≤ h c + smL h m
            omega
      exact gen l
    have hb := h0 b
    by_cases c : b = a
    · rw [List.filter_cons, if_neg (by rw [c]; simp)]
      rw [c]
      omega
    · have hm' : a ∈ l := (List.mem_cons.mp hm).resolve_left (fun z => c z.symm)
      have ih := smL_filter h0 a l hm'
      rw [List.filter_cons, if_pos (decide_eq_true c)]
      show h a + (h b + smL h (l.filter (fun x => decide (x ≠ a)))) ≤ h b + smL h l
      omega
theorem smL_sub [DecidableEq Ob] {h : Ob → Int} (h0 : ∀ x, 0 ≤ h x) : ∀ (A l : List Ob), A.Nodup → (∀ x, x ∈ A → x ∈ l) → smL h A ≤ smL h l
  | [], l, _, _ => smL_pos h0 l
  | a :: A, l, hn, hs => by
    rw [List.nodup_cons] at hn
    have h1 := smL_filter h0 a l (hs a List.mem_cons_self)
    have ih := smL_sub h0 A (l.filter (fun x => decide (x ≠ a))) hn.2 (fun x hx => List.mem_filter.mpr ⟨hs x (List.mem_cons_of_mem _ hx), decide_eq_true (fun z => hn.1 (by rw [← z]; exact hx))⟩)
    show h a + smL h A ≤ smL h l
    omega
theorem smL_szL [DecidableEq Ob] : ∀ l : List Ob, smL Ob.sz l = Sp.szL l
  | [] => rfl
  | a :: l => by
    show a.sz + smL Ob.sz l = a.sz + Sp.szL l
    rw [smL_szL l]
theorem nodup_map [DecidableEq Ob] {f : Ob → Ob} : ∀ {A : List Ob}, A.Nodup → (∀ x, x ∈ A → ∀ y, y ∈ A → f x = f y → x = y) → (A.map f).Nodup
  | [], _, _ => List.nodup_nil
  | a :: A, h, hi => by
    rw [List.nodup_cons] at h
    rw [List.map_cons, List.nodup_cons]
    refine ⟨fun hm => ?_, nodup_map h.2 (fun x hx y hy e => hi x (List.mem_cons_of_mem _ hx) y (List.mem_cons_of_mem _ hy) e)⟩
    obtain ⟨x, hx, e⟩ := List.mem_map.mp hm
    have := hi x (List.mem_cons_of_mem _ hx) a List.mem_cons_self e
    rw [this] at hx
    exact h.1 hx
theorem cst_nil [DecidableEq Ob] : Ob.isConst Ob.nil = true := by
  show (Ob.isNat Ob.nil || decide (Ob.nil = Ob.nil) || decide (Ob.nil = Ob.t)) = true
  rw [decide_eq_true (rfl : Ob.nil = Ob.nil), Bool.or_true, Bool.true_or]
/-- what NOT x is -/
def ngN [DecidableEq Ob] (x : Ob) : Ob := if Ob.isCallOf x Ob.not then Ob.item x 1 else if x = Ob.nil then Ob.t else if Ob.isConst x then Ob.nil else .pr Ob.not (.pr x Ob.nil)
theorem rb_not [DecidableEq Ob] (x : Ob) : NdB 2 2 (fun y => y = ngN x) (Sp.mkNot x) := by
  unfold Sp.mkNot ngN
  by_cases c1 : Ob.isCallOf x Ob.not = true
  · rw [if_pos c1, if_pos c1]; exact NdB.ret (by decide) rfl
  rw [if_neg c1, if_neg c1]
  by_cases c2 : x = Ob.nil
  · rw [if_pos c2, if_pos c2]; exact NdB.ret (by decide) rfl
  rw [if_neg c2, if_neg c2]
  by_cases c3 : Ob.isConst x = true
  · rw [if_pos c3, if_pos c3]; exact NdB.ret (by decide) rfl
  rw [if_neg c3, if_neg c3]
  exact NdB.big (n := 2) (by decide) (by decide)
theorem csL_smL [DecidableEq Ob] : ∀ l : List Ob, csL l = smL (Ob.csM false) l
  | [] => rfl
  | a :: l => by
    show Ob.csM false a + csL l = Ob.csM false a + smL (Ob.csM false) l
    rw [csL_smL l]
/-- different instances are no more than five times their negations -/
theorem ng_sum [DecidableEq Ob] {ar : Ob → Int} (har : ar Ob.not = 1) {A l : List Ob} (hA : A.Nodup) (hw : ∀ x, x ∈ A → Ob.wt ar x) (hm : ∀ x, x ∈ A → ngN x ∈ l) : csL A ≤ 5 * Sp.szL l := by
  have p0 : ∀ x : Ob, 0 ≤ x.sz := fun x => (Ob.szM_pos false x).1
  have nform : ∀ x, x ∈ A → Ob.isCallOf x Ob.not = true → x = .pr Ob.not (.pr (ngN x) Ob.nil) := fun x hx hc => by
    obtain ⟨z, e, _⟩ := Ob.wt_one (hw x hx) hc (Ob.sym_ne (by decide)) har
    have : ngN x = z := by
      unfold ngN
      rw [if_pos hc, e]
      rfl
    rw [this]; exact e
  -- negations
  have h1 : csL (A.filter (fun x => Ob.isCallOf x Ob.not)) ≤ 3 * Sp.szL l := by
    have nd : ((A.filter (fun x => Ob.isCallOf x Ob.not)).map ngN).Nodup := by
      refine nodup_map (List.Pairwise.filter _ hA) (fun x hx y hy e => ?_)
      obtain ⟨x1, x2⟩ := List.mem_filter.mp hx
      obtain ⟨y1, y2⟩ := List.mem_filter.mp hy
      rw [nform x x1 x2, nform y y1 y2, e]
    have s1 := smL_sub p0 _ l nd (fun y hy => by
      obtain ⟨x, hx, e⟩ := List.mem_map.mp hy
      rw [← e]; exact hm x (List.mem_filter.mp hx).1)
    rw [smL_szL l] at s1
    have s2 : ∀ B : List Ob, (∀ x, x ∈ B → x ∈ A ∧ Ob.isCallOf x Ob.not = true) → csL B ≤ 3 * smL Ob.sz (B.map ngN) := by
      intro B
      induction B with
      | nil => intro _; exact Int.le_refl _
      | cons b B ih =>
        intro hB
        have ih := ih (fun x hx => hB x (List.mem_cons_of_mem _ hx))
        obtain ⟨b1, b2⟩ := hB b List.mem_cons_self
        have e := nform b b1 b2
        have c1 : Ob.csM false b = 2 + Ob.csM false (ngN b) := by
          rw [e]
          have : ngN (.pr Ob.not (.pr (ngN b) Ob.nil)) = ngN b := by rw [← e]
          rw [this]
          show (if Ob.not = Ob.quote then 0 else 1 + (1 + Ob.csM false (ngN b) + 0)) = _
          rw [if_neg (show ¬ Ob.not = Ob.quote from Ob.sym_ne (by decide))]
          omega
        have c2 := csM_le (ngN b)
        have c3 : 1 ≤ (ngN b).sz := (Ob.szM_pos false (ngN b)).2 rfl
        show Ob.csM false b + csL B ≤ 3 * ((ngN b).sz + smL Ob.sz (B.map ngN))
        omega
    have := s2 (A.filter (fun x => Ob.isCallOf x Ob.not)) (fun x hx => List.mem_filter.mp hx)
    omega
  -- others
  have h2 : csL (A.filter (fun x => !Ob.isCallOf x Ob.not)) ≤ 2 * Sp.szL l := by
    have key : ∀ B : List Ob, B.Nodup → (∀ x, x ∈ B → x ∈ A ∧ Ob.isCallOf x Ob.not = false) → csL B ≤ 2 * smL Ob.sz ((B.filter (fun x => !Ob.isConst x)).map ngN) := by
      intro B
      induction B with
      | nil => intro _ _; exact Int.le_refl _
      | cons b B ih =>
        intro hn hB
        rw [List.nodup_cons] at hn
        have ih := ih hn.2 (fun x hx => hB x (List.mem_cons_of_mem _ hx))
        obtain ⟨b1, b2⟩ := hB b List.mem_cons_self
        rw [List.filter_cons]
        cases c : Ob.isConst b with
        | true =>
          have c0 : Ob.csM false b = 0 := by
            cases b with
            | var x => rfl
            | op f g =>
              have hq : f = Ob.quote := of_decide_eq_true c
              exact if_pos hq
          show Ob.csM false b + csL B ≤ _
          rw [c0]
          simp only [Bool.not_true, Bool.false_eq_true, if_false]
          omega
        | false =>
          have e : ngN b = .pr Ob.not (.pr b Ob.nil) := by
            unfold ngN
            rw [if_neg (by rw [b2]; decide), if_neg (fun z => by rw [z] at c; exact absurd c (by rw [cst_nil]; decide)), if_neg (by rw [c]; decide)]
          have c2 := csM_le b
          have c3 : (ngN b).sz = 1 + b.sz := by rw [e]; exact sz_one (Ob.sym_ne (by decide))
          simp only [Bool.not_false, if_true, List.map_cons]
          show Ob.csM false b + csL B ≤ 2 * ((ngN b).sz + smL Ob.sz ((B.filter (fun x => !Ob.isConst x)).map ngN))
          omega
    have k1 := key (A.filter (fun x => !Ob.isCallOf x Ob.not)) (List.Pairwise.filter _ hA) (fun x hx => by
      obtain ⟨x1, x2⟩ := List.mem_filter.mp hx
      refine ⟨x1, ?_⟩
      cases c : Ob.isCallOf x Ob.not with
      | false => rfl
      | true => rw [c] at x2; cases x2)
    have nd : (((A.filter (fun x => !Ob.isCallOf x Ob.not)).filter (fun x => !Ob.isConst x)).map ngN).Nodup := by
      refine nodup_map (List.Pairwise.filter _ (List.Pairwise.filter _ hA)) (fun x hx y hy e => ?_)
      have form : ∀ x, x ∈ ((A.filter (fun x => !Ob.isCallOf x Ob.not)).filter (fun x => !Ob.isConst x)) → ngN x = .pr Ob.not (.pr x Ob.nil) := fun x hx => by
        obtain ⟨x1, x2⟩ := List.mem_filter.mp hx
        obtain ⟨x3, x4⟩ := List.mem_filter.mp x1
        have n1 : Ob.isCallOf x Ob.not = false := by
          cases c : Ob.isCallOf x Ob.not with
          | false => rfl
          | true => rw [c] at x4; cases x4
        have n2 : Ob.isConst x = false := by
          cases c : Ob.isConst x with
          | false => rfl
          | true => rw [c] at x2; cases x2
        unfold ngN
        rw [if_neg (by rw [n1]; decide), if_neg (fun z => by rw [z] at n2; exact absurd n2 (by rw [cst_nil]; decide)), if_neg (by rw [n2]; decide)]
      rw [form x hx, form y hy] at e
      exact (Ob.pr.inj (Ob.pr.inj e).2).1
    have s1 := smL_sub p0 _ l nd (fun y hy => by
      obtain ⟨x, hx, e⟩ := List.mem_map.mp hy
      rw [← e]; exact hm x (List.mem_filter.mp (List.mem_filter.mp hx).1).1)
    rw [smL_szL l] at s1
    omega
  have h3 : ∀ B : List Ob, csL B = csL (B.filter (fun x => Ob.isCallOf x Ob.not)) + csL (B.filter (fun x => !Ob.isCallOf x Ob.not)) := by
    intro B
    induction B with
    | nil => rfl
    | cons b B ih =>
      rw [List.filter_cons, List.filter_cons]
      cases c : Ob.isCallOf b Ob.not with
      | true =>
        simp only [Bool.not_true, Bool.false_eq_true, if_false, if_true]
        show Ob.csM false b + csL B = Ob.csM false b + _ + _
        omega
      | false =>
        simp only [Bool.not_false, Bool.false_eq_true, if_false, if_true]
        show Ob.csM false b + csL B = _ + (Ob.csM false b + _)
        omega
  rw [h3 A]
  omega
