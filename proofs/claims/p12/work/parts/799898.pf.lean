-- deps: 799897
/-! PROOFS: what they make at most, by their words -/
theorem npr_row [DecidableEq Ob] : ∀ b : Ob, npr b + 2 ≤ 2 * nwd true b
  | .var x => by
    have := nwd_pos true (.var x)
    show (0 : Int) + 2 ≤ _
    omega
  | .op a b => by
    have h1 : npr a + 1 ≤ 2 * nwd false a := npr_nwd false a
    have h2 := npr_row b
    show 1 + npr a + npr b + 2 ≤ 2 * (nwd false a + nwd true b)
    omega
def WP [DecidableEq Ob] (o : Ob) : Int := 140 * nwd false o - 7 * npr o
def WR [DecidableEq Ob] (b : Ob) : Int := 140 * nwd true b - 7 * npr b
def WPL [DecidableEq Ob] : List Ob → Int | [] => 0 | a :: l => WP a + WPL l
theorem WP_nwd [DecidableEq Ob] (o : Ob) : 126 * nwd false o + 7 ≤ WP o ∧ 133 ≤ WP o := by
  have h1 : npr o + 1 ≤ 2 * nwd false o := npr_nwd false o
  have h2 := nwd_pos false o
  unfold WP
  omega
theorem WR_140 [DecidableEq Ob] (b : Ob) : 140 ≤ WR b := by
  have h1 := npr_row b
  have h2 := nwd_pos true b
  unfold WR
  omega
theorem WR_op [DecidableEq Ob] (x c : Ob) : WR (.op x c) = WP x + WR c - 7 := by
  unfold WR WP
  show 140 * (nwd false x + nwd true c) - 7 * (1 + npr x + npr c) = _
  omega
theorem WR_nil [DecidableEq Ob] : WR Ob.nil = 140 := by
  unfold WR
  rw [nil_words.1]
  rfl
theorem WP_op [DecidableEq Ob] {f b : Ob} (hf : f ≠ Ob.quote) (h1 : nwd false f = 1) (h2 : npr f = 0) : WP (.op f b) = 273 + WR b := by
  unfold WP WR
  rw [nwd_call hf, h1]
  show 140 * (1 + 1 + nwd true b) - 7 * (1 + npr f + npr b) = _
  rw [h2]
  omega
theorem len_succ [DecidableEq Ob] {b : Ob} {n : Int} (h0 : 0 ≤ n) (h : Ob.len b = n + 1) : ∃ x c, b = .op x c ∧ Ob.len c = n := by
  cases b with
  | var x => rw [Ob.len_var] at h; split at h <;> omega
  | op x c =>
    rw [Ob.len_pr] at h
    split at h
    · omega
    · exact ⟨x, c, rfl, by omega⟩
theorem len_zero [DecidableEq Ob] {b : Ob} (h : Ob.len b = 0) : b = Ob.nil := by
  cases b with
  | var x =>
    rw [Ob.len_var] at h
    split at h
    · next q => exact q
    · omega
  | op x c =>
    have := Ob.len_low c
    rw [Ob.len_pr] at h
    split at h <;> omega
theorem shape2 [DecidableEq Ob] {o : Ob} (h : Ob.len o = 2) : ∃ f x, o = .op f (.op x Ob.nil) := by
  obtain ⟨f, b, e, h1⟩ := len_succ (n := 1) (by decide) h
  obtain ⟨x, c, e1, h2⟩ := len_succ (n := 0) (by decide) h1
  exact ⟨f, x, by rw [e, e1, len_zero h2]⟩
theorem shape3 [DecidableEq Ob] {o : Ob} (h : Ob.len o = 3) : ∃ f x y, o = .op f (.op x (.op y Ob.nil)) := by
  obtain ⟨f, b, e, h1⟩ := len_succ (n := 2) (by decide) h
  obtain ⟨x, y, e1⟩ := shape2 h1
  exact ⟨f, x, y, by rw [e, e1]⟩
theorem shape4 [DecidableEq Ob] {o : Ob} (h : Ob.len o = 4) : ∃ f x y z, o = .op f (.op x (.op y (.op z Ob.nil))) := by
  obtain ⟨f, b, e, h1⟩ := len_succ (n := 3) (by decide) h
  obtain ⟨x, y, z, e1⟩ := shape3 h1
  exact ⟨f, x, y, z, by rw [e, e1]⟩
/-- does a clause have the variable quote? -/
def vQ [DecidableEq Ob] (c : List Ob) : Int := if c.any (fun x => Ob.has (Ob.ptM false x) Ob.quote) = true then 1 else 0
theorem vQ_r [DecidableEq Ob] (c : List Ob) : 0 ≤ vQ c ∧ vQ c ≤ 1 := by unfold vQ; split <;> decide
theorem vQ_0 [DecidableEq Ob] {c : List Ob} (h : ∀ x, x ∈ c → Ob.quote ∉ Ob.ptM false x) : vQ c = 0 := by
  unfold vQ
  rw [if_neg (fun q => ?_)]
  obtain ⟨x, hx, e⟩ := List.any_eq_true.mp q
  exact h x hx (Ob.has_iff.mp e)
theorem vQ_1 [DecidableEq Ob] {c : List Ob} {x : Ob} (hx : x ∈ c) (h : Ob.quote ∈ Ob.ptM false x) : vQ c = 1 := by
  unfold vQ
  have q : c.any (fun x => Ob.has (Ob.ptM false x) Ob.quote) = true := List.any_eq_true.mpr ⟨x, hx, Ob.has_iff.mpr h⟩
  rw [if_pos q]
theorem vQ_not [DecidableEq Ob] {c : List Ob} (h : vQ c = 0) : ∀ x, x ∈ c → Ob.quote ∉ Ob.ptM false x := fun x hx q => by
  have := vQ_1 hx q
  omega
def sgL [DecidableEq Ob] : List (List Ob) → Int | [] => 0 | c :: cs => 401 + 135 * vQ c + sgL cs
def CbQ [DecidableEq Ob] (c : List Ob) : Prop := c.length ≤ 30 ∧ Sp.szL c ≤ 400
/-- what a conclusion makes of the parts' clauses -/
def CoB [DecidableEq Ob] (o : Ob) (cs : List (List Ob)) (s : Sp.Wk) (R : EStateM.Result Unit Sp.Wk (List Ob)) : Prop :=
  match R with
  | .ok l s' => (s'.2 : Int) + 401 + 135 * vQ l + WPL (Sp.partsOf o) ≤ (s.2 : Int) + WP o + sgL cs
  | .error _ s' => (s'.2 : Int) + WPL (Sp.partsOf o) ≤ (s.2 : Int) + WP o + 800 + 401 * (cs.length : Int)
theorem CoB_of [DecidableEq Ob] {o : Ob} {cs : List (List Ob)} {m : Sp.M (List Ob)} {A Eb : Int} {P : List Ob → Prop} (h : NdB A Eb P m) (n : NoT m) (h1 : ∀ l, P l → A + 401 + 135 * vQ l + WPL (Sp.partsOf o) ≤ WP o + sgL cs) (h2 : Eb + WPL (Sp.partsOf o) ≤ WP o + 800 + 401 * (cs.length : Int)) (s : Sp.Wk) : CoB o cs s (m s) := by
  obtain ⟨q1, q2⟩ := NdB.noT h n s
  cases e : m s with
  | ok l s' =>
    obtain ⟨k1, _, k3⟩ := q1 l s' e
    have := h1 l k1
    show (s'.2 : Int) + 401 + 135 * vQ l + WPL (Sp.partsOf o) ≤ _
    omega
  | error x s' =>
    obtain ⟨_, k3⟩ := q2 x s' e
    show (s'.2 : Int) + WPL (Sp.partsOf o) ≤ _
    omega
/-- a form: its parts, its conclusion -/
def FmB [DecidableEq Ob] (E : Sp.Env) (o : Ob) : Prop := WPL (Sp.partsOf o) ≤ WP o ∧ ∀ cs, cs.length = (Sp.partsOf o).length → (∀ c, c ∈ cs → CbQ c) → ∀ s, CoB o cs s (Sp.concl E o cs s)
theorem sg0 [DecidableEq Ob] {cs : List (List Ob)} (h : cs.length = ([] : List Ob).length) : cs = [] := List.eq_nil_of_length_eq_zero h
/-- forms without parts -/
theorem fb_leaf [DecidableEq Ob] {E : Sp.Env} {o : Ob} {A : Int} (hp : Sp.partsOf o = []) (h : NdB A A (fun _ => True) (Sp.concl E o [])) (n : NoT (Sp.concl E o [])) (hA : A + 536 ≤ WP o) : FmB E o := by
  have a0 : 0 ≤ WP o := by have := (WP_nwd o).2; omega
  refine ⟨by rw [hp]; exact a0, fun cs hl _ s => ?_⟩
  rw [hp] at hl
  have e := sg0 hl
  rw [e]
  refine CoB_of h n (fun l _ => ?_) ?_ s
  · have := vQ_r l
    rw [hp]
    show A + 401 + 135 * vQ l + 0 ≤ WP o + 0
    omega
  · rw [hp]
    show A + 0 ≤ WP o + 800 + 401 * ((0 : Nat) : Int)
    omega
theorem kk1 [DecidableEq Ob] (f a : Ob) : NdB 2 2 (fun _ => True) (Sp.mk1 f a) := (NdB.big (n := 2) (by decide) (by decide)).le (Int.le_refl _) (Int.le_refl _) (fun _ _ => trivial)
theorem kk2 [DecidableEq Ob] (f a b : Ob) : NdB 3 3 (fun _ => True) (Sp.mk2 f a b) := (NdB.big (n := 3) (by decide) (by decide)).le (Int.le_refl _) (Int.le_refl _) (fun _ _ => trivial)
theorem kk3 [DecidableEq Ob] (f a b c : Ob) : NdB 4 4 (fun _ => True) (Sp.mk3 f a b c) := (NdB.big (n := 4) (by decide) (by decide)).le (Int.le_refl _) (Int.le_refl _) (fun _ _ => trivial)
theorem NoT.fail [DecidableEq Ob] {α : Type} : NoT (Sp.fail (α := α)) := fun _ => ⟨rfl, Nat.le_refl _⟩
theorem NoT.pay [DecidableEq Ob] {n : Nat} : NoT (Sp.pay n) := fun _ => ⟨rfl, Nat.le_add_right _ _⟩
theorem wp2 [DecidableEq Ob] {o : Ob} (h : Ob.len o = 2) (hq : Ob.lft o ≠ Ob.quote) (h1 : nwd false (Ob.lft o) = 1) (h2 : npr (Ob.lft o) = 0) : WP o = 406 + WP (Ob.item o 1) := by
  obtain ⟨f, x, e⟩ := shape2 h
  rw [e] at hq h1 h2 ⊢
  rw [WP_op (f := f) hq h1 h2, WR_op, WR_nil]
  show _ = 406 + WP x
  omega
theorem wp3 [DecidableEq Ob] {o : Ob} (h : Ob.len o = 3) (hq : Ob.lft o ≠ Ob.quote) (h1 : nwd false (Ob.lft o) = 1) (h2 : npr (Ob.lft o) = 0) : WP o = 399 + WP (Ob.item o 1) + WP (Ob.item o 2) := by
  obtain ⟨f, x, y, e⟩ := shape3 h
  rw [e] at hq h1 h2 ⊢
  rw [WP_op (f := f) hq h1 h2, WR_op, WR_op, WR_nil]
  show _ = 399 + WP x + WP y
  omega
theorem wp4 [DecidableEq Ob] {o : Ob} (h : Ob.len o = 4) (hq : Ob.lft o ≠ Ob.quote) (h1 : nwd false (Ob.lft o) = 1) (h2 : npr (Ob.lft o) = 0) : WP o = 392 + WP (Ob.item o 1) + WP (Ob.item o 2) + WP (Ob.item o 3) := by
  obtain ⟨f, x, y, z, e⟩ := shape4 h
  rw [e] at hq h1 h2 ⊢
  rw [WP_op (f := f) hq h1 h2, WR_op, WR_op, WR_op, WR_nil]
  show _ = 392 + WP x + WP y + WP z
  omega
section
variable {E : Sp.Env} {o : Ob}
theorem fb_taut [DecidableEq Ob] (h : Sp.isForm E o = true) (c : Ob.lft o = Ob.taut) : FmB E o := by
  rw [isForm_taut c, Bool.and_eq_true_iff, beq_iff_eq] at h
  have w := wp2 h.1 (by rw [c]; exact Ob.sym_ne (by decide)) (by rw [c]; rfl) (by rw [c]; rfl)
  have := (WP_nwd (Ob.item o 1)).2
  refine fb_leaf (A := 2) (ptsC_taut c) ?_ ?_ (by omega) <;> rw [concl_taut c]
  · exact NdB.bd (B := 0) (F := 0) (NdB.not (Int.le_refl _) (Int.le_refl _)) (fun n _ => NdB.ret (Int.le_refl _) trivial) (by decide) (by decide) (by decide)
  · exact NoT.bd NoT.not (fun _ => NoT.ret)
theorem fb_same [DecidableEq Ob] (h : Sp.isForm E o = true) (c : Ob.lft o = Ob.same) : FmB E o := by
  rw [isForm_same c, Bool.and_eq_true_iff, beq_iff_eq] at h
  have w := wp2 h.1 (by rw [c]; exact Ob.sym_ne (by decide)) (by rw [c]; rfl) (by rw [c]; rfl)
  have := (WP_nwd (Ob.item o 1)).2
  refine fb_leaf (A := 3) (ptsC_same c) ?_ ?_ (by omega) <;> rw [concl_same c]
  · exact NdB.bd (B := 0) (F := 0) (kk2 _ _ _) (fun n _ => NdB.ret (Int.le_refl _) trivial) (by decide) (by decide) (by decide)
  · exact NoT.bd NoT.big (fun _ => NoT.ret)
theorem fb_value [DecidableEq Ob] (h : Sp.isForm E o = true) (c : Ob.lft o = Ob.value) : FmB E o := by
  rw [isForm_value c, Bool.and_eq_true_iff, beq_iff_eq] at h
  have w := wp2 h.1 (by rw [c]; exact Ob.sym_ne (by decide)) (by rw [c]; rfl) (by rw [c]; rfl)
  have w2 : 259 ≤ WP (Ob.item o 1) := by
    have a1 := (WP_nwd (Ob.item o 1)).1
    have a2 : 2 ≤ nwd false (Ob.item o 1) := by
      cases e : Ob.item o 1 with
      | var x =>
        have h2 := h.2
        have e2 : Sp.rdAt E o 1 = some (.var x) := by
          unfold Sp.rdAt
          rw [e]
          unfold Ob.rdT
          show (match (some (Lean.Data.AC.Expr.var x) : Option Ob) with | some x => if Ob.sz x ≤ 120 then some x else none | none => none) = _
          show (if Ob.sz (.var x) ≤ 120 then some (Lean.Data.AC.Expr.var x : Ob) else none) = _
          rw [if_pos (show Ob.sz (.var x) ≤ 120 by show (1 : Int) ≤ 120; decide)]
        rw [e2] at h2
        have h2 : (Sp.toldV (.var x)).isSome = true := h2
        unfold Sp.toldV at h2
        rw [if_neg (by show ¬ ((Ob.isCall (.var x) && _ && _) = true); rw [show Ob.isCall (.var x) = false from rfl, Bool.false_and, Bool.false_and]; exact Bool.false_ne_true)] at h2
        cases h2
      | op a b =>
        cases b with
        | var y =>
          have h3 := nwd_pos false a
          have h4 := nwd_pos true (.var y)
          show 2 ≤ 1 + nwd false a + nwd true (.var y)
          omega
        | op y z =>
          have h3 := nwd_pos false a
          have h4 := nwd_pos false y
          have h5 := nwd_pos true (.op y z)
          show 2 ≤ (if a = Ob.quote ∧ z = Ob.nil then 1 + nwd false y else 1 + nwd false a + nwd true (.op y z))
          split <;> omega
    omega
  refine fb_leaf (A := 6) (ptsC_value c) ?_ ?_ (by omega) <;> rw [concl_value c]
  · refine NdB.bd (A := 3) (E := 3) (B := 3) (F := 3) (NdB.pay (by decide)) (fun _ _ => ?_) (by decide) (by decide) (by decide)
    exact NdB.bd (B := 0) (F := 0) (kk2 _ _ _) (fun n _ => NdB.ret (Int.le_refl _) trivial) (by decide) (by decide) (by decide)
  · exact NoT.bd NoT.pay (fun _ => NoT.bd NoT.big (fun _ => NoT.ret))
theorem fb_first [DecidableEq Ob] (h : Sp.isForm E o = true) (c : Ob.lft o = Ob.first) : FmB E o := by
  rw [isForm_first c, Bool.and_eq_true_iff, beq_iff_eq] at h
  have w := wp3 h.1 (by rw [c]; exact Ob.sym_ne (by decide)) (by rw [c]; rfl) (by rw [c]; rfl)
  have := (WP_nwd (Ob.item o 1)).2
  have := (WP_nwd (Ob.item o 2)).2
  refine fb_leaf (A := 8) (ptsC_first c) ?_ ?_ (by omega) <;> rw [concl_first c]
  · refine NdB.bd (B := 5) (F := 5) (kk2 _ _ _) (fun n _ => ?_) (by decide) (by decide) (by decide)
    refine NdB.bd (B := 3) (F := 3) (kk1 _ _) (fun n _ => ?_) (by decide) (by decide) (by decide)
    exact NdB.bd (B := 0) (F := 0) (kk2 _ _ _) (fun n _ => NdB.ret (Int.le_refl _) trivial) (by decide) (by decide) (by decide)
  · exact NoT.bd NoT.big (fun _ => NoT.bd NoT.big (fun _ => NoT.bd NoT.big (fun _ => NoT.ret)))
theorem fb_second [DecidableEq Ob] (h : Sp.isForm E o = true) (c : Ob.lft o = Ob.second) : FmB E o := by
  rw [isForm_second c, Bool.and_eq_true_iff, beq_iff_eq] at h
  have w := wp3 h.1 (by rw [c]; exact Ob.sym_ne (by decide)) (by rw [c]; rfl) (by rw [c]; rfl)
  have := (WP_nwd (Ob.item o 1)).2
  have := (WP_nwd (Ob.item o 2)).2
  refine fb_leaf (A := 8) (ptsC_second c) ?_ ?_ (by omega) <;> rw [concl_second c]
  · refine NdB.bd (B := 5) (F := 5) (kk2 _ _ _) (fun n _ => ?_) (by decide) (by decide) (by decide)
    refine NdB.bd (B := 3) (F := 3) (kk1 _ _) (fun n _ => ?_) (by decide) (by decide) (by decide)
    exact NdB.bd (B := 0) (F := 0) (kk2 _ _ _) (fun n _ => NdB.ret (Int.le_refl _) trivial) (by decide) (by decide) (by decide)
  · exact NoT.bd NoT.big (fun _ => NoT.bd NoT.big (fun _ => NoT.bd NoT.big (fun _ => NoT.ret)))
theorem fb_pair [DecidableEq Ob] (h : Sp.isForm E o = true) (c : Ob.lft o = Ob.pair) : FmB E o := by
  rw [isForm_pair c, Bool.and_eq_true_iff, beq_iff_eq] at h
  have w := wp3 h.1 (by rw [c]; exact Ob.sym_ne (by decide)) (by rw [c]; rfl) (by rw [c]; rfl)
  have := (WP_nwd (Ob.item o 1)).2
  have := (WP_nwd (Ob.item o 2)).2
  refine fb_leaf (A := 5) (ptsC_pair c) ?_ ?_ (by omega) <;> rw [concl_pair c]
  · refine NdB.bd (B := 2) (F := 2) (kk2 _ _ _) (fun n _ => ?_) (by decide) (by decide) (by decide)
    exact NdB.bd (B := 0) (F := 0) (kk1 _ _) (fun n _ => NdB.ret (Int.le_refl _) trivial) (by decide) (by decide) (by decide)
  · exact NoT.bd NoT.big (fun _ => NoT.bd NoT.big (fun _ => NoT.ret))
theorem fb_yes [DecidableEq Ob] (h : Sp.isForm E o = true) (c : Ob.lft o = Ob.yes) : FmB E o := by
  rw [isForm_yes c, Bool.and_eq_true_iff, beq_iff_eq] at h
  have w := wp4 h.1 (by rw [c]; exact Ob.sym_ne (by decide)) (by rw [c]; rfl) (by rw [c]; rfl)
  have := (WP_nwd (Ob.item o 1)).2
  have := (WP_nwd (Ob.item o 2)).2
  have := (WP_nwd (Ob.item o 3)).2
  refine fb_leaf (A := 9) (ptsC_yes c) ?_ ?_ (by omega) <;> rw [concl_yes c]
  · refine NdB.bd (A := 2) (E := 2) (B := 7) (F := 7) (NdB.not (by decide) (by decide)) (fun n _ => ?_) (by decide) (by decide) (by decide)
    refine NdB.bd (B := 3) (F := 3) (kk3 _ _ _ _) (fun n _ => ?_) (by decide) (by decide) (by decide)
    exact NdB.bd (B := 0) (F := 0) (kk2 _ _ _) (fun n _ => NdB.ret (Int.le_refl _) trivial) (by decide) (by decide) (by decide)
  · exact NoT.bd NoT.not (fun _ => NoT.bd NoT.big (fun _ => NoT.bd NoT.big (fun _ => NoT.ret)))
theorem fb_no [DecidableEq Ob] (h : Sp.isForm E o = true) (c : Ob.lft o = Ob.no) : FmB E o := by
  rw [isForm_no c, Bool.and_eq_true_iff, beq_iff_eq] at h
  have w := wp4 h.1 (by rw [c]; exact Ob.sym_ne (by decide)) (by rw [c]; rfl) (by rw [c]; rfl)
  have := (WP_nwd (Ob.item o 1)).2
  have := (WP_nwd (Ob.item o 2)).2
  have := (WP_nwd (Ob.item o 3)).2
  refine fb_leaf (A := 7) (ptsC_no c) ?_ ?_ (by omega) <;> rw [concl_no c]
  · refine NdB.bd (B := 3) (F := 3) (kk3 _ _ _ _) (fun n _ => ?_) (by decide) (by decide) (by decide)
    exact NdB.bd (B := 0) (F := 0) (kk2 _ _ _) (fun n _ => NdB.ret (Int.le_refl _) trivial) (by decide) (by decide) (by decide)
  · exact NoT.bd NoT.big (fun _ => NoT.bd NoT.big (fun _ => NoT.ret))
theorem fb_def [DecidableEq Ob] (h : Sp.isForm E o = true) (c : Ob.lft o = Ob.defS) : FmB E o := by
  rw [isForm_defS c, Bool.and_eq_true_iff, beq_iff_eq] at h
  have w := wp2 h.1 (by rw [c]; exact Ob.sym_ne (by decide)) (by rw [c]; rfl) (by rw [c]; rfl)
  have := (WP_nwd (Ob.item o 1)).2
  refine fb_leaf (A := 3) (ptsC_defS c) ?_ ?_ (by omega) <;> rw [concl_defS c]
  · cases E.dfn (Ob.item o 1) with
    | none => exact NdB.fail (by decide)
    | some D => exact NdB.bd (B := 0) (F := 0) (kk2 _ _ _) (fun n _ => NdB.ret (Int.le_refl _) trivial) (by decide) (by decide) (by decide)
  · cases E.dfn (Ob.item o 1) with
    | none => exact NoT.fail
    | some D => exact NoT.bd NoT.big (fun _ => NoT.ret)
theorem fb_thm [DecidableEq Ob] (h : Sp.isForm E o = true) (c : Ob.lft o = Ob.thm) : FmB E o := by
  rw [isForm_thm c, Bool.and_eq_true_iff, beq_iff_eq] at h
  have w := wp2 h.1 (by rw [c]; exact Ob.sym_ne (by decide)) (by rw [c]; rfl) (by rw [c]; rfl)
  have := (WP_nwd (Ob.item o 1)).2
  refine fb_leaf (A := 0) (ptsC_thm c) ?_ ?_ (by omega) <;> rw [concl_thm c]
  · cases E.thmOf (Ob.item o 1) with
    | none => exact NdB.fail (by decide)
    | some k => exact NdB.ret (by decide) trivial
  · cases E.thmOf (Ob.item o 1) with
    | none => exact NoT.fail
    | some k => exact NoT.ret
end
