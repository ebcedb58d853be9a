-- deps: 453
/-! the reference, partial: constants, what is not, functions and how many terms they take -/
theorem isConst_pr [DecidableEq Ob] {a b : Ob} : Ob.isConst (.pr a b) = decide (a = Ob.quote) := rfl
theorem isCall_pr [DecidableEq Ob] {a b : Ob} : Ob.isCall (.pr a b) = decide (a ≠ Ob.quote) := rfl
theorem isVar_pr [DecidableEq Ob] {a b : Ob} : Ob.isVar (.pr a b) = false := rfl
/-- three kinds of terms -/
theorem Ob.kinds [DecidableEq Ob] (o : Ob) : (o.isConst = true ∧ o.isCall = false ∧ o.isVar = false) ∨ (o.isConst = false ∧ o.isCall = true ∧ o.isVar = false) ∨ (o.isConst = false ∧ o.isCall = false ∧ o.isVar = true) := by
  cases o with
  | op a b =>
    by_cases c : a = Ob.quote
    · exact Or.inl ⟨decide_eq_true c, decide_eq_false (fun z => z c), rfl⟩
    · exact Or.inr (Or.inl ⟨decide_eq_false c, decide_eq_true c, rfl⟩)
  | var x =>
    have e1 : Ob.isConst (.var x) = (Ob.isNat (.var x) || decide (.var x = Ob.nil) || decide (.var x = Ob.t)) := rfl
    have e2 : Ob.isVar (.var x) = (Ob.isSym (.var x) && decide (.var x ≠ Ob.nil) && decide (.var x ≠ Ob.t)) := rfl
    have e3 : Ob.isNat (.var x) = !Ob.isSym (.var x) := by
      show (x % 2 == 0) = !(x % 2 == 1)
      rcases Nat.mod_two_eq_zero_or_one x with h | h <;> rw [h] <;> rfl
    rw [e1, e2, e3]
    cases hs : Ob.isSym (.var x) with
    | false => exact Or.inl ⟨by simp, rfl, by simp⟩
    | true =>
      by_cases c1 : (.var x : Ob) = Ob.nil
      · exact Or.inl ⟨by simp [c1], rfl, by simp [c1]⟩
      · by_cases c2 : (.var x : Ob) = Ob.t
        · exact Or.inl ⟨by simp [c2], rfl, by simp [c2]⟩
        · exact Or.inr (Or.inr ⟨by simp [c1, c2], rfl, by simp [c1, c2]⟩)
theorem Tm_quote [DecidableEq Ob] {u : iST} {a b : Ob} (h : Tm u (.pr a b)) (hq : a = Ob.quote) : ∃ x, b = Ob.pr x Ob.nil ∧ Ob.constOf x = Ob.pr a b := by
  have h' : if a = Ob.quote then _ else _ := h
  rw [if_pos hq] at h'
  exact h'
theorem Tm_isQuoted [DecidableEq Ob] {u : iST} {o : Ob} (h : Tm u o) (hp : o.isPr = true) : o.isQuoted = o.isConst := by
  cases o with
  | var x => cases hp
  | op a b =>
    by_cases c : a = Ob.quote
    · obtain ⟨x, e, _⟩ := Tm_quote h c
      rw [e]
      show (decide (a = Ob.quote) && decide (Ob.nil = Ob.nil)) = decide (a = Ob.quote)
      rw [decide_eq_true c]
      simp
    · show _ = decide (a = Ob.quote)
      rw [decide_eq_false c]
      cases b with
      | var _ => rfl
      | op x y => show (decide (a = Ob.quote) && _) = false; rw [decide_eq_false c]; rfl
theorem isConst_leaf [DecidableEq Ob] {o : Ob} (h : o.isPr = false) : o.isConst = (o.isNat || decide (o = Ob.nil) || decide (o = Ob.t)) := by
  cases o with
  | var x => rfl
  | op a b => cases h
theorem p_isConstant [DecidableEq Ob] {k : Int} {Q : Int → iST → Prop} {u : iST} (hT : TI u) (hU : TU u) (k0 : 0 ≤ k) (k1 : k < u.1 8) (ht : Tm u (ob u k)) (h : ∀ r, bq r (ob u k).isConst → Q r u) : pw_isConstant k Q u := by
  have e0 := TU.at hT hU (i := 0) (by decide) rfl k0 k1
  have e1 := TU.at hT hU (i := 1) (by decide) rfl k0 k1
  have one : (ob u k).isConst = true → bq 1 (ob u k).isConst := fun e => ⟨fun z => absurd z (by decide), fun z => by rw [e] at z; cases z⟩
  have lf : (ob u k).isNat = true ∨ ob u k = Ob.nil ∨ ob u k = Ob.t → (ob u k).isConst = true := by
    intro z
    have hp : (ob u k).isPr = false := by
      rcases z with z | z | z
      · cases e : ob u k with
        | var x => rfl
        | op a b => rw [e] at z; cases z
      · rw [z]; rfl
      · rw [z]; rfl
    rw [isConst_leaf hp]
    rcases z with z | z | z
    · rw [z]; rfl
    · rw [decide_eq_true z]; simp
    · rw [decide_eq_true z]; simp
  unfold pw_isConstant
  refine p_isNatural hT k0 k1 (fun r hr => ⟨fun hc _ => h 1 (one (lf (Or.inl (hr.t hc)))), fun hc => ⟨fun hd _ => h 1 (one (lf (Or.inr (Or.inl (e0.mp hd))))), fun hd => ⟨fun he _ => h 1 (one (lf (Or.inr (Or.inr (e1.mp he))))), fun he => ?_⟩⟩⟩)
  have hn := hr.f (Decidable.not_not.mp hc)
  refine p_isQuoted hT hU k0 k1 (fun r2 hr2 => ?_)
  have key : (ob u k).isQuoted = (ob u k).isConst := by
    cases hp : (ob u k).isPr with
    | true => exact Tm_isQuoted ht hp
    | false =>
      rw [isConst_leaf hp, hn, decide_eq_false (fun z => hd (e0.mpr z)), decide_eq_false (fun z => he (e1.mpr z))]
      cases e : ob u k with
      | var x => rfl
      | op a b => rw [e] at hp; cases hp
  refine ⟨fun hf _ => h 0 ⟨fun _ => key ▸ hr2.f hf, fun _ => rfl⟩, fun hf _ => h 1 (one (key ▸ hr2.t hf))⟩
theorem p_valueOf [DecidableEq Ob] {k : Int} {Q : Int → iST → Prop} {u : iST} (hT : TI u) (hU : TU u) (k0 : 0 ≤ k) (k1 : k < u.1 8) (ht : Tm u (ob u k)) (hc : (ob u k).isConst = true) (h : ∀ r, 0 ≤ r → r < u.1 8 → ob u r = (ob u k).valOf → Q r u) : pw_valueOf k Q u := by
  unfold pw_valueOf
  refine p_isPair hT k0 k1 (fun r hr => ⟨fun hd => ?_, fun hd => ?_⟩)
  · refine h k k0 k1 ?_
    have := hr.f hd
    cases e : ob u k with
    | var x => rfl
    | op a b => rw [e] at this; cases this
  · obtain ⟨l0, l1, q0, q1, _, _, ep⟩ := ob_lft hT k0 k1 (hr.t hd)
    rw [ep] at ht hc
    obtain ⟨x, ex, _⟩ := Tm_quote ht (of_decide_eq_true hc)
    obtain ⟨m0, m1, _, _, _, _, ep2⟩ := ob_lft hT q0 (by omega) (by rw [ex]; rfl)
    intro _ _ y ey _ _ _ z ez _
    subst ey ez
    refine h _ m0 (by omega) ?_
    rw [ep]
    show _ = Ob.lft (ob u (u.2.1 1 k))
    rw [ep2]; rfl
theorem constOf_leaf [DecidableEq Ob] {o : Ob} (h : o.isNat = true ∨ o = Ob.nil ∨ o = Ob.t) : Ob.constOf o = o := by
  unfold Ob.constOf
  rw [if_pos]
  rcases h with h | h | h <;> simp [h]
theorem constOf_quote [DecidableEq Ob] {o : Ob} (h1 : o.isNat = false) (h2 : o ≠ Ob.nil) (h3 : o ≠ Ob.t) : Ob.constOf o = .pr Ob.quote (.pr o Ob.nil) := by
  unfold Ob.constOf
  rw [if_neg]
  simp [h1, h2, h3]
theorem Tm_leaf [DecidableEq Ob] {u : iST} {o : Ob} (h : o.isPr = false) : Tm u o := by
  cases o with
  | var x => trivial
  | op a b => cases h
theorem Tm_constOf [DecidableEq Ob] (u : iST) (o : Ob) : Tm u (Ob.constOf o) := by
  by_cases h : o.isNat = true ∨ o = Ob.nil ∨ o = Ob.t
  · rw [constOf_leaf h]
    refine Tm_leaf ?_
    rcases h with h | h | h
    · cases o with
      | var x => rfl
      | op a b => cases h
    · rw [h]; rfl
    · rw [h]; rfl
  · have h1 : o.isNat = false := Bool.not_eq_true _ ▸ fun z => h (Or.inl z)
    have e := constOf_quote h1 (fun z => h (Or.inr (Or.inl z))) (fun z => h (Or.inr (Or.inr z)))
    rw [e]
    show if Ob.quote = Ob.quote then _ else _
    rw [if_pos rfl]
    exact ⟨o, rfl, e⟩
theorem p_constantOf [DecidableEq Ob] {k : Int} {Q : Int → iST → Prop} {u : iST} (hT : TI u) (hU : TU u) (k0 : 0 ≤ k) (k1 : k < u.1 8) (hq : ∀ c v, GR u v → 0 ≤ c → c < v.1 8 → ob v c = Ob.constOf (ob u k) → Q c v) : pw_constantOf k Q u := by
  have h8 := hT.1
  have e0 := TU.at hT hU (i := 0) (by decide) rfl k0 k1
  have e1 := TU.at hT hU (i := 1) (by decide) rfl k0 k1
  have old : (ob u k).isNat = true ∨ ob u k = Ob.nil ∨ ob u k = Ob.t → Q k u := fun z => hq k u (GR.rf hT hU) k0 k1 (constOf_leaf z).symm
  unfold pw_constantOf
  refine p_isNatural hT k0 k1 (fun r hr => ⟨fun hc => old (Or.inl (hr.t hc)), fun hc => ⟨fun hd => old (Or.inr (Or.inl (e0.mp hd))), fun hd => ⟨fun he => ?_, fun he => old (Or.inr (Or.inr (e1.mp (Decidable.not_not.mp he))))⟩⟩⟩)
  have k2 := kn hT hU 2 (by decide) (by decide) rfl
  have kz := kn hT hU 0 (by decide) (by decide) rfl
  unfold pw_list2 pw_list1
  refine p_pair hT hU k0 k1 kz.1 kz.2.1 (fun c v hv c0 c1 ec => ?_)
  have hl := hv.le
  have k2l := k2.2.1
  refine p_pair hv.1 hv.2.1 k2.1 (by omega) c0 c1 (fun d w hw d0 d1 ed => ?_)
  refine hq d w (hv.tr hT hw) d0 d1 ?_
  rw [ed, ec, hv.ob hT k2.1 k2.2.1, k2.2.2, constOf_quote (hr.f (Decidable.not_not.mp hc)) (fun z => hd (e0.mpr z)) (fun z => he (e1.mpr z)), kz.2.2]
theorem p_functionOf [DecidableEq Ob] {f : Int} {Q : Int → iST → Prop} {u : iST} (h : ∀ r, FnOf u f r → Q r u) : pw_functionOf f Q u := by
  have key : ¬ (3 ≤ f ∧ f ≤ 16) → pw_functionOf_13 Q f u := by
    intro hb
    unfold pw_functionOf_13
    intro x ex _
    subst ex
    refine ⟨fun hc => ?_, fun hc => h 99 (Or.inr (Or.inl ⟨hb, Decidable.not_not.mp hc, rfl⟩))⟩
    refine pw_functionOf_26_i (fun x1 x2 v => v = u ∧ x1 = f ∧ 0 ≤ x2 ∧ ∀ e, 0 ≤ e → e < x2 → u.2.1 36 e ≠ f) ?_ ⟨rfl, rfl, by omega, fun e e0 e1 => by omega⟩
    intro x1 x2 v hI
    obtain ⟨rfl, rfl, q1, q2⟩ := hI
    unfold pw_functionOf_26b
    intro y ey _
    subst ey
    refine ⟨fun hd => h (-1) (Or.inr (Or.inr (Or.inr ⟨hb, hc, fun e e0 e1 => q2 e e0 (by omega), rfl⟩))), fun hd => ?_⟩
    intro _ _ z ez _
    subst ez
    refine ⟨fun he _ => ⟨rfl, rfl, by omega, fun e e0 e1 => ?_⟩, fun he _ => h _ (Or.inr (Or.inr (Or.inl ⟨hb, hc, x2, q1, by omega, Decidable.not_not.mp he, q2, rfl⟩)))⟩
    by_cases c : e = x2
    · subst c; exact he
    · exact q2 e e0 (by omega)
  unfold pw_functionOf
  exact ⟨fun hc => key (by omega), fun hc => ⟨fun hd => key (by omega), fun hd => h f (Or.inl ⟨by omega, by omega, rfl⟩)⟩⟩
theorem p_manyOf [DecidableEq Ob] {r : Int} {Q : Int → iST → Prop} {u : iST} (hr : 3 ≤ r) (h : Q (Many u r) u) : pw_manyOf r Q u := by
  unfold Many at h
  unfold pw_manyOf
  refine ⟨fun hc => ⟨fun hd => ⟨fun he => ⟨fun hf => ?_, fun hf => ?_⟩, fun he => ?_⟩, fun hd => ?_⟩, fun hc => ?_⟩
  · rw [if_neg (by omega), if_neg (by omega), if_neg (by omega), if_neg (by omega)] at h
    intro _ _ _ x ex _
    subst ex; exact h
  · rw [if_neg (by omega), if_neg (by omega), if_neg (by omega), if_pos (by omega)] at h
    intro x ex _
    subst ex; exact h
  · rw [if_neg (by omega), if_neg (by omega), if_pos (by omega)] at h
    exact h
  · rw [if_neg (by omega), if_pos (by omega)] at h
    exact h
  · rw [if_pos (by omega)] at h
    exact h
/-- the functions and how many terms they take -/
def ArOk [DecidableEq Ob] (u : iST) (ar : Ob → Int) : Prop := ∀ f r, 0 ≤ f → f < u.1 8 → (ob u f).isSym = true → FnOf u f r → (r = -1 ∧ ar (ob u f) = -1) ∨ (3 ≤ r ∧ 0 ≤ Many u r ∧ ar (ob u f) = Many u r)
