-- deps: 762
/-! the class: lists of (x T); the theorems used -/
def f8p (k : Nat) : Bool := decide (27 ≤ k ∧ k ≤ 30) || decide (35 ≤ k ∧ k ≤ 43)
theorem f8W_p [DecidableEq Ob] : ∀ k, f8p k = false → f8W k = false := fun k h => by
  unfold f8p at h
  unfold f8W
  simp only [Bool.or_eq_false_iff, decide_eq_false_iff_not] at h ⊢
  omega
theorem f8m_p [DecidableEq Ob] : ∀ k, f8p k = false → f8m k = false := fun k h => by
  unfold f8p at h
  unfold f8m
  simp only [Bool.or_eq_false_iff, decide_eq_false_iff_not] at h ⊢
  omega
theorem f8p_Y [DecidableEq Ob] : ∀ k, f8Yr k = false → f8p k = false := fun k h => (Bool.or_eq_false_iff.mp h).1
theorem f8p_rows [DecidableEq Ob] {n : Nat → Bool} {u v : iST} (g : CG n f8p u v) : ∀ k, 46 ≤ k → k ≤ 49 → v.2.1 k = u.2.1 k := fun k h1 h2 => g.2.2.2 k (by unfold f8p; simp only [Bool.or_eq_false_iff, decide_eq_false_iff_not]; omega)
/-- what reading them makes at most -/
def cpL [DecidableEq Ob] : List Ob → Int | [] => 0 | p :: l => Ob.csM false (Ob.item p 1) + cpL l
theorem cpL_pos [DecidableEq Ob] : ∀ l : List Ob, 0 ≤ cpL l
  | [] => Int.le_refl _
  | p :: l => by
    have := cpL_pos l
    have h := (csM_it false (Ob.item p 1)).1
    show 0 ≤ Ob.csM false (Ob.item p 1) + cpL l
    omega
/-- as many as the row of bindings holds -/
def PrB [DecidableEq Ob] (E : Sp.Env) (l : List Ob) : Prop := ∀ (i : Nat) (ps : List (Ob × Ob)), i ≤ l.length → Sp.pairsGo E (l.take i) [] = some ps → i ≤ 256
theorem pairsGo_app [DecidableEq Ob] (E : Sp.Env) : ∀ (a b : List Ob) (l : List (Ob × Ob)), Sp.pairsGo E (a ++ b) l = (match Sp.pairsGo E a l with | some l' => Sp.pairsGo E b l' | none => none)
  | [], b, l => rfl
  | p :: a, b, l => by
    show Sp.pairsGo E (p :: (a ++ b)) l = _
    rw [pairsGo_cons, pairsGo_cons]
    by_cases c : Ob.len p = 2 ∧ Ob.isVar (Ob.lft p) = true ∧ Ob.lk l (Ob.lft p) = none
    · rw [if_pos c, if_pos c]
      cases e : Ob.rdT (Sp.arOf E) (Ob.item p 1) with
      | none => rfl
      | some T => exact pairsGo_app E a b _
    · rw [if_neg c, if_neg c]
theorem drop_is [DecidableEq Ob] {α : Type} {l r : List α} {i : Nat} {p : α} (h : l.drop i = p :: r) : l[i]? = some p ∧ l.drop (i + 1) = r ∧ i < l.length := by
  have h1 : (l.drop i)[0]? = some p := by rw [h]; rfl
  rw [List.getElem?_drop] at h1
  refine ⟨h1, ?_, (List.getElem?_eq_some_iff.mp h1).1⟩
  rw [← List.drop_drop, h]
  rfl
theorem pc_bindPairs [DecidableEq Ob] {a : Int} {Q : Int → iST → Prop} {u : iST} {E : Sp.Env} (hT : CT u) (hD : DOc u E) (h37 : u.1 37 = -1) (h6 : ∀ f, Sp.arOf E f ≤ 6) (hs0 : ∀ f : Ob, f.isSym = false → Sp.arOf E f = -1) (va : VN u a) (hlen : (oc u a).len ≠ -1) (hm : PrB E (Ob.toList (oc u a))) (hs : ∀ p, p ∈ Ob.toList (oc u a) → (Ob.item p 1).sz ≤ 1000000) (h32 : u.1 32 = 0) (hroom : u.1 29 + cpL (Ob.toList (oc u a)) ≤ 160000)
    (h0 : ∀ v, CG f8Yn f8p u v → v.1 32 = 0 → v.1 29 ≤ u.1 29 + cpL (Ob.toList (oc u a)) → Sp.pairsOf E (oc u a) = none → Q 0 v)
    (h1 : ∀ v ps, CG f8Yn f8p u v → v.1 32 = 0 → v.1 29 ≤ u.1 29 + cpL (Ob.toList (oc u a)) → BnOk v → bdL v = ps → Sp.pairsOf E (oc u a) = some ps → (∀ p, p ∈ ps → p.1.isVar = true ∧ Ob.wt (Sp.arOf E) p.2 ∧ p.2.sz ≤ 120) → Q 1 v) : pv_10_bindPairs a Q u := by
  have hpo : Sp.pairsOf E (oc u a) = Sp.pairsGo E (Ob.toList (oc u a)) [] := if_neg hlen
  unfold pv_10_bindPairs
  intro y0 ey0
  have g0 : CG f8Yn f8p u y0 := by rw [ey0]; exact CG_I hT (by decide) (by decide)
  have c0 : oc y0 a = oc u a := oc_same (by rw [ey0]; rfl) a
  have n39 : y0.1 39 = 0 := by rw [ey0, iIc_at]
  have n29 : y0.1 29 = u.1 29 := by rw [ey0]; rfl
  have b0 : bdL y0 = [] := by unfold bdL; rw [n39]; rfl
  refine pv_10_bindPairs_7_i (fun x2 y => CG f8Yn f8p u y ∧ y.1 32 = 0 ∧ y.1 29 + cpL (Ob.toList (oc y x2)) ≤ u.1 29 + cpL (Ob.toList (oc u a)) ∧ BnOk y ∧ VN y x2 ∧ (oc y x2).len ≠ -1 ∧ (∃ i : Nat, Ob.toList (oc y x2) = (Ob.toList (oc u a)).drop i ∧ i ≤ (Ob.toList (oc u a)).length ∧ y.1 39 = (i : Int) ∧ Sp.pairsGo E ((Ob.toList (oc u a)).take i) [] = some (bdL y)) ∧ (∀ p, p ∈ Ob.toList (oc y x2) → (Ob.item p 1).sz ≤ 1000000) ∧ (∀ p, p ∈ bdL y → p.1.isVar = true ∧ Ob.wt (Sp.arOf E) p.2 ∧ p.2.sz ≤ 120) ∧ Sp.pairsGo E (Ob.toList (oc y x2)) (bdL y) = Sp.pairsGo E (Ob.toList (oc u a)) []) ?_ ⟨g0, by rw [ey0]; exact h32, by rw [c0, n29]; exact Int.le_refl _, ⟨by omega, by omega, fun i i0 i1 => by omega⟩, va.up g0, by rw [c0]; exact hlen, ⟨0, by rw [c0, List.drop_zero], Nat.zero_le _, n39, by rw [List.take_zero, b0]; rfl⟩, by rw [c0]; exact hs, (fun p hp => by rw [b0] at hp; cases hp), by rw [c0, b0]⟩
  rintro x2 y ⟨gy, ya, hc, hB, vx, hl, ⟨i, hi1, hi2, hi3, hi4⟩, hsz, hw, hpg⟩
  unfold pv_10_bindPairs_7b
  refine pc_isPair gy.1 vx (fun r hr => ⟨fun z _ => ?_, fun z => ?_⟩)
  · have hn := hr.f z
    cases e : oc y x2 with
    | op p l => rw [e] at hn; cases hn
    | var w =>
      rw [e] at hpg hc
      have hpg : some (bdL y) = Sp.pairsGo E (Ob.toList (oc u a)) [] := hpg
      have hc : y.1 29 + 0 ≤ u.1 29 + cpL (Ob.toList (oc u a)) := hc
      exact h1 y (bdL y) gy ya (by omega) hB rfl (by rw [hpo]; exact hpg.symm) hw
  have hn := hr.t z
  cases e : oc y x2 with
  | var w => rw [e] at hn; cases hn
  | op p l =>
    rw [e] at hpg hc hl hi1 hsz
    obtain ⟨gi, gd, gl⟩ := drop_is (show (Ob.toList (oc u a)).drop i = p :: Ob.toList l from hi1.symm)
    have hc : y.1 29 + (Ob.csM false (Ob.item p 1) + cpL (Ob.toList l)) ≤ u.1 29 + cpL (Ob.toList (oc u a)) := hc
    have cp := cpL_pos (Ob.toList l)
    have cpu := (csM_it false (Ob.item p 1)).1
    have hll : Ob.len l ≠ -1 := fun q => hl (by rw [Ob.len_pr, if_pos q])
    have hpg : (if Ob.len p = 2 ∧ Ob.isVar (Ob.lft p) ∧ Ob.lk (bdL y) (Ob.lft p) = none then (match Ob.rdT (Sp.arOf E) (Ob.item p 1) with | some T => Sp.pairsGo E (Ob.toList l) (bdL y ++ [(Ob.lft p, T)]) | none => none) else none) = Sp.pairsGo E (Ob.toList (oc u a)) [] := hpg
    have hsp : (Ob.item p 1).sz ≤ 1000000 := hsz p List.mem_cons_self
    refine pc_left gy.1 vx (fun v2 vv2 e2 => ?_)
    rw [e] at e2
    have e2 : oc y v2 = p := e2
    refine pc_left gy.1 vv2 (fun v3 vv3 e3 => ?_)
    rw [e2] at e3
    refine pc_lengthOf gy.1 vv2 ?_
    rw [e2]
    refine ⟨fun hne => ?_, fun heq => ?_⟩
    · unfold pv_10_bindPairs_67
      refine ⟨fun _ _ => h0 y gy ya (by omega) ?_, fun q => absurd rfl q⟩
      rw [hpo, ← hpg]
      exact if_neg (fun q => hne q.1)
    have heq := Decidable.not_not.mp heq
    refine pc_item gy.1 vv2 (by decide) (fun v9 vv9 e9 => ?_)
    rw [e2] at e9
    have e9 : oc y v9 = Ob.item p 1 := e9
    have hDy := hD.mono hT gy (gy.2.2.1 0 (by decide)) (fun k hk => gy.2.2.2 k (by unfold f8p; simp only [Bool.or_eq_false_iff, decide_eq_false_iff_not]; omega))
    refine pc_readX (ar := Sp.arOf E) gy.1 hDy (Or.inl ⟨(gy.2.2.1 37 (by decide)).trans h37, rfl⟩) h6 hs0 vv9 (by rw [e9]; exact hsp) ya (by rw [e9]; omega) (fun t w gw w29 wa hor => ?_)
    rw [e9] at w29 hor
    have gwY : CG f8Yn f8p y w := gw.mono f8B_Y f8W_p
    have guw := gy.tr gwY
    unfold pv_10_bindPairs_67
    refine ⟨fun ht _ => ?_, fun ht => ?_⟩
    · rcases hor with ⟨_, q⟩ | ⟨q, _⟩
      · refine h0 w guw wa (by omega) ?_
        rw [hpo, ← hpg, q]
        exact ite_self _
      · have := q.1; omega
    obtain ⟨vt, wt1, zt1, erd⟩ : VN w t ∧ Ob.wt (Sp.arOf E) (oc w t) ∧ (oc w t).sz ≤ 120 ∧ Ob.rdT (Sp.arOf E) (Ob.item p 1) = some (oc w t) := by
      rcases hor with ⟨q, _⟩ | q
      · exact absurd q ht
      · exact q
    have e3w : oc w v3 = Ob.lft p := (gw.oc gy.1 vv3.1 vv3.2).trans e3
    have vv3w := vv3.up gw
    obtain ⟨hBw, eBw⟩ := hB.mono gy.1 gw (gw.2.2.1 39 (by decide)) (gw.2.2.2 35 (by decide)) (gw.2.2.2 36 (by decide))
    refine pc_isVariable gw.1 vv3w (fun r5 h5 => ⟨fun q _ => ?_, fun q => ?_⟩)
    · have := h5.f q
      rw [e3w] at this
      refine h0 w guw wa (by omega) ?_
      rw [hpo, ← hpg]
      exact if_neg (fun q2 => by rw [this] at q2; cases q2.2.1)
    have hvar := h5.t q
    rw [e3w] at hvar
    refine pc_standsFor gw.1 hBw vv3w (fun hno => ⟨fun _ => ?_, fun q2 => absurd rfl q2⟩) (fun r6 vr6 h6' => ⟨fun q2 => by have := vr6.1; omega, fun _ _ => ?_⟩)
    · rw [eBw, e3w] at hno
      have pg1 : Sp.pairsGo E ((Ob.toList (oc u a)).take (i + 1)) [] = some (bdL y ++ [(Ob.lft p, oc w t)]) := by
        rw [List.take_add_one, gi]
        show Sp.pairsGo E ((Ob.toList (oc u a)).take i ++ [p]) [] = _
        rw [pairsGo_app, hi4]
        show Sp.pairsGo E [p] (bdL y) = _
        rw [pairsGo_cons, if_pos ⟨heq, hvar, hno⟩, erd]
        rfl
      have h256 := hm (i + 1) _ (by omega) pg1
      refine pc_bind gw.1 hBw vv3w vt (by rw [gw.2.2.1 39 (by decide)]; omega) (fun w1 g1 B1 eB1 n1 _ _ _ c1 => ?_)
      have vxw := (vx.up gw).up g1
      have ew : oc w1 x2 = .op p l := by rw [oc_same c1, gw.oc gy.1 vx.1 vx.2]; exact e
      refine pc_right g1.1 vxw (fun t2 vt2 et2 => ?_)
      rw [ew] at et2
      have et2 : oc w1 t2 = l := et2
      have g1Y : CG f8Yn f8p w w1 := g1.mono f8b_Y f8m_p
      refine ⟨guw.tr g1Y, by rw [g1.2.2.1 32 (by decide)]; exact wa, by rw [et2, g1.2.2.1 29 (by decide)]; omega, B1, vt2, by rw [et2]; exact hll, ⟨i + 1, by rw [et2]; exact gd.symm, by omega, by rw [n1, gw.2.2.1 39 (by decide), hi3]; omega, by rw [eB1, eBw, e3w]; exact pg1⟩, fun p' hp' => by rw [et2] at hp'; exact hsz p' (List.mem_cons_of_mem _ hp'), fun p' hp' => ?_, ?_⟩
      · rw [eB1, eBw, e3w] at hp'
        rcases List.mem_append.mp hp' with hp' | hp'
        · exact hw p' hp'
        · rcases List.mem_cons.mp hp' with hp' | hp'
          · rw [hp']; exact ⟨hvar, wt1, zt1⟩
          · cases hp'
      · rw [et2, eB1, eBw, e3w, ← hpg, if_pos ⟨heq, hvar, hno⟩, erd]
    · rw [eBw, e3w] at h6'
      refine h0 w guw wa (by omega) ?_
      rw [hpo, ← hpg]
      exact if_neg (fun q2 => by rw [h6'] at q2; cases q2.2.2)
theorem Fit.le [DecidableEq Ob] {α : Type} {B B' : Int} {R : EStateM.Result Unit Sp.Wk α} (h : Fit B' R) (hb : B ≤ B') : Fit B R := by
  unfold Fit at h ⊢
  omega
/-- reading makes some nodes beside -/
theorem PdK_d.more [DecidableEq Ob] {δ : Nat} {α : Type} {B c : Int} {n r n' r' : Nat → Bool} {u v w : iST} {R : EStateM.Result Unit Sp.Wk α} {m : Sp.M α} (h : PdK_d B δ n r u v R m) (g : CG n' r' v w) (hn : ∀ k, n k = false → n' k = false) (hr : ∀ k, r k = false → r' k = false) (h29 : w.1 29 ≤ v.1 29 + c) (h30 : w.1 30 = v.1 30) (h31 : w.1 31 = v.1 31) (h32 : w.1 32 = v.1 32) : PdK_d (B + c) δ n r u w R m := by
  refine ⟨h.1.tr (g.mono hn hr), ?_⟩
  rcases h.2 with ⟨s, hl, e⟩ | ⟨s, hl, e⟩
  · refine Or.inl ⟨s, ⟨by rw [h32]; exact hl.1, by unfold StS StC; rw [h30, h31]; exact hl.2.1, ?_⟩, e⟩
    have := hl.2.2
    omega
  · exact Or.inr ⟨s, ⟨by rw [h32]; exact hl.1, by unfold StS StC; rw [h30, h31]; exact hl.2.1, by have := hl.2.2; omega⟩, e⟩
theorem PdK_d.free [DecidableEq Ob] {δ : Nat} {α : Type} {B c : Int} {n r : Nat → Bool} {u v : iST} {R : EStateM.Result Unit Sp.Wk α} {m : Sp.M α} (h : PdK_d B δ n r u v R m) (fit : Fit (B + c) R) (hm : Mono m) (z : v.1 32 = 0) : v.1 29 + c ≤ 160000 := by
  obtain ⟨s, hl, e⟩ := h.live z
  unfold Fit at fit
  rw [e] at fit
  have h1 := hm s
  have h2 := hl.2.2
  omega
def cpH [DecidableEq Ob] : List Ob → Int | [] => 0 | h :: l => cpL (Ob.toList (Ob.rgt (Ob.rgt h))) + cpH l
theorem cpH_pos [DecidableEq Ob] : ∀ l : List Ob, 0 ≤ cpH l
  | [] => Int.le_refl _
  | h :: l => by
    have h1 := cpH_pos l
    have h2 := cpL_pos (Ob.toList (Ob.rgt (Ob.rgt h)))
    show 0 ≤ cpL (Ob.toList (Ob.rgt (Ob.rgt h))) + cpH l
    omega
theorem uses_cons [DecidableEq Ob] {α : Type} (F : Ob) (ps : List (Ob × Ob)) (us : List (Ob × List (Ob × Ob))) (l xs : List Ob) (K : List Ob → Sp.M α) : Sp.bd (Sp.usesGo ((F, ps) :: us) l xs) K = Sp.bd (Sp.fillU xs (Ob.lkD ps) F) (fun x => Sp.bd (Sp.mkNot x) (fun y => Sp.bd (Sp.usesGo us (Sp.putL l y) (x :: xs)) K)) := by
  show Sp.bd (Sp.bd (Sp.fillU xs (Ob.lkD ps) F) (fun x => Sp.bd (Sp.mkNot x) (fun y => Sp.usesGo us (Sp.putL l y) (x :: xs)))) K = _
  simp only [bd_assoc]
theorem uses_die [DecidableEq Ob] {α : Type} {K : List Ob → Sp.M α} (hK : ∀ l, Sp.bnd l = false → Die (K l)) : ∀ (us : List (Ob × List (Ob × Ob))) (l xs : List Ob), Sp.bnd l = false → Die (Sp.bd (Sp.usesGo us l xs) K)
  | [], l, _, h => fun s => hK l h s
  | (F, ps) :: us, l, xs, h => by
    rw [uses_cons]
    exact Die.bd NoT.big (fun _ => Die.bd NoT.not (fun _ => uses_die hK us _ _ (bndF h)))
theorem uses_mono [DecidableEq Ob] : ∀ (us : List (Ob × List (Ob × Ob))) (l xs : List Ob), Mono (Sp.usesGo us l xs)
  | [], _, _ => Mono.ret
  | (F, ps) :: us, l, xs => by
    show Mono (Sp.bd (Sp.fillU xs (Ob.lkD ps) F) (fun x => Sp.bd (Sp.mkNot x) (fun y => Sp.usesGo us (Sp.putL l y) (x :: xs))))
    exact Mono.bd Mono.big (fun _ => Mono.bd Mono.not (fun _ => uses_mono us _ _))
/-- a hint as it was asked -/
def UsH [DecidableEq Ob] (E : Sp.Env) (h : Ob) : Prop := Ob.lft h = Ob.use → ((Sp.pairsOf E (Ob.rgt (Ob.rgt h))).isSome = true ∧ (E.thmOf (Ob.item h 1)).isSome = true) ∧ Ob.len (Ob.rgt (Ob.rgt h)) ≠ -1 ∧ PrB E (Ob.toList (Ob.rgt (Ob.rgt h))) ∧ ∀ p, p ∈ Ob.toList (Ob.rgt (Ob.rgt h)) → (Ob.item p 1).sz ≤ 1000000
theorem usesOf_no [DecidableEq Ob] {E : Sp.Env} {h : Ob} {l : List Ob} (hu : Ob.lft h ≠ Ob.use) : Sp.usesOf E (h :: l) = Sp.usesOf E l := by
  unfold Sp.usesOf
  rw [List.filterMap_cons, if_neg hu]
theorem usesOf_yes [DecidableEq Ob] {E : Sp.Env} {h : Ob} {l : List Ob} {k : Sp.Thm} {ps : List (Ob × Ob)} (hu : Ob.lft h = Ob.use) (hk : E.thmOf (Ob.item h 1) = some k) (hp : Sp.pairsOf E (Ob.rgt (Ob.rgt h)) = some ps) : Sp.usesOf E (h :: l) = (k.form, ps) :: Sp.usesOf E l := by
  unfold Sp.usesOf
  rw [List.filterMap_cons, if_pos hu, hk, hp]
theorem pc_addUses [DecidableEq Ob] {δ : Nat} {α : Type} {c a B : Int} {n r : Nat → Bool} {Q : iST → Prop} {u v : iST} {E : Sp.Env} {R : EStateM.Result Unit Sp.Wk α} {K : List Ob → Sp.M α} (hP : PdK_d B δ n r u v R (Sp.bd (Sp.usesGo (Sp.usesOf E (Ob.toList (oc v a))) (clC v c) []) K)) (hn : ∀ k, n k = false → f8Yn k = false) (hr : ∀ k, r k = false → f8Yr k = false) (fit : Fit (B + cpH (Ob.toList (oc v a))) R) (hK : ∀ a, Mono (K a)) (hKd : ∀ l, Sp.bnd l = false → Die (K l)) (h6 : ∀ f, Sp.arOf E f ≤ 6) (hs0 : ∀ f : Ob, f.isSym = false → Sp.arOf E f = -1) (hD : DOc v E) (hTo : TOc v E) (hFm : ∀ j : Nat, (j : Int) < v.1 1 → NdC v E (v.2.1 6 (j : Int))) (h37 : v.1 37 = -1) (va : VN v a) (hh : ∀ h, h ∈ Ob.toList (oc v a) → UsH E h) (hC : v.1 32 = 0 → ClW v E c ∧ Sp.bnd (clC v c) = true)
    (hq : ∀ w, CG f8Yn f8Yr v w → (v.1 32 ≠ 0 → w.1 32 ≠ 0) → (w.1 32 = 0 → CmC E c v w) → PdK_d (B + cpH (Ob.toList (oc v a))) (δ + 600) n r u w R (K (clC w c)) → Q w) : pv_8_addUses c a Q v := by
  have hT := hP.1.1
  have nB : ∀ k, n k = false → f8B k = false := fun k h => f8B_Y k (hn k h)
  have rW : ∀ k, r k = false → f8W k = false := fun k h => f8W_Y k (hr k h)
  have CmC0 : v.1 32 = 0 → CmC E c v v := fun z => ⟨OtC.rf, (hC z).1, (hC z).2, rfl⟩
  unfold pv_8_addUses
  refine pv_8_addUses_2_i (fun x1 x3 y => x1 = c ∧ ∃ (B' : Int) (xs : List Ob), CG f8Yn f8Yr v y ∧ (v.1 32 ≠ 0 → y.1 32 ≠ 0) ∧ VN y x3 ∧ (∀ h, h ∈ Ob.toList (oc y x3) → UsH E h) ∧ B' + cpH (Ob.toList (oc y x3)) ≤ B + cpH (Ob.toList (oc v a)) ∧ (y.1 32 = 0 → CmC E c v y) ∧ PdK_d B' (δ + 600) n r u y R (Sp.bd (Sp.usesGo (Sp.usesOf E (Ob.toList (oc y x3))) (clC y c) xs) K) ∧ (y.1 32 = 0 → ∀ x, x ∈ xs → ExT y x ∧ x.sz ≤ 120)) ?_ ⟨rfl, B, [], CG.rf hT, id, va, hh, Int.le_refl _, CmC0, hP.w, fun _ x hx => by cases hx⟩
  rintro x1 x3 y ⟨b1, B', xs, gy, yd, vx, hhy, hB', hCm, hPy, hxs⟩
  rw [b1]
  have mono0 : ∀ us l xs, Mono (Sp.bd (Sp.usesGo us l xs) K) := fun us l xs => Mono.bd (uses_mono us l xs) hK
  have leB : ∀ (b : Int) (w : iST) (m : Sp.M α), b ≤ B + cpH (Ob.toList (oc v a)) → PdK_d b (δ + 600) n r u w R m → PdK_d (B + cpH (Ob.toList (oc v a))) (δ + 600) n r u w R m := fun b w m hb h => by
    have := h.more (c := B + cpH (Ob.toList (oc v a)) - b) (CG.rf (n := f80) (r := f80) h.1.1) (fun _ _ => rfl) (fun _ _ => rfl) (by omega) rfl rfl rfl
    rw [show b + (B + cpH (Ob.toList (oc v a)) - b) = B + cpH (Ob.toList (oc v a)) by omega] at this
    exact this
  have cpx := cpH_pos (Ob.toList (oc y x3))
  unfold pv_8_addUses_2b
  refine pc_isPair gy.1 vx (fun rr hr' => ⟨fun z => ?_, fun z => ?_⟩)
  · have hno := hr'.f z
    cases e : oc y x3 with
    | op p l => rw [e] at hno; cases hno
    | var w =>
      rw [e] at hPy
      exact hq y gy yd hCm (leB B' y _ (by omega) hPy)
  have hpr := hr'.t z
  intro v2 e2 _
  refine ⟨fun q => hq y gy yd hCm (leB B' y _ (by omega) (hPy.any (by rw [← e2]; exact q) _)), fun q => ?_⟩
  have ya : y.1 32 = 0 := by rw [← e2]; exact Decidable.not_not.mp q
  have hPy := hPy.zero (δ' := 0) ya
  obtain ⟨ho, hW, hb, h48⟩ := hCm ya
  have va0 : v.1 32 = 0 := by
    by_cases q : v.1 32 = 0
    · exact q
    · exact absurd ya (yd q)
  cases e : oc y x3 with
  | var w => rw [e] at hpr; cases hpr
  | op h l =>
    rw [e] at hPy hB' hhy
    have hB' : B' + (cpL (Ob.toList (Ob.rgt (Ob.rgt h))) + cpH (Ob.toList l)) ≤ B + cpH (Ob.toList (oc v a)) := hB'
    have hPy : PdK_d B' 0 n r u y R (Sp.bd (Sp.usesGo (Sp.usesOf E (h :: Ob.toList l)) (clC y c) xs) K) := hPy
    have uh : UsH E h := hhy h List.mem_cons_self
    have uhl : ∀ h', h' ∈ Ob.toList l → UsH E h' := fun h' hm => hhy h' (List.mem_cons_of_mem _ hm)
    have cp := cpL_pos (Ob.toList (Ob.rgt (Ob.rgt h)))
    have cpl := cpH_pos (Ob.toList l)
    -- on to the next one
    have next : ∀ (b : Int) (w : iST) (xs' : List Ob), b + cpH (Ob.toList l) ≤ B + cpH (Ob.toList (oc v a)) → CG f8Yn f8Yr y w → (w.1 32 = 0 → CmC E c v w) → PdK_d b (δ + 600) n r u w R (Sp.bd (Sp.usesGo (Sp.usesOf E (Ob.toList l)) (clC w c) xs') K) → (w.1 32 = 0 → ∀ x, x ∈ xs' → ExT w x ∧ x.sz ≤ 120) → pv_8_addUses_129 (fun x1 x3 y => x1 = c ∧ ∃ (B' : Int) (xs : List Ob), CG f8Yn f8Yr v y ∧ (v.1 32 ≠ 0 → y.1 32 ≠ 0) ∧ VN y x3 ∧ (∀ h, h ∈ Ob.toList (oc y x3) → UsH E h) ∧ B' + cpH (Ob.toList (oc y x3)) ≤ B + cpH (Ob.toList (oc v a)) ∧ (y.1 32 = 0 → CmC E c v y) ∧ PdK_d B' (δ + 600) n r u y R (Sp.bd (Sp.usesGo (Sp.usesOf E (Ob.toList (oc y x3))) (clC y c) xs) K) ∧ (y.1 32 = 0 → ∀ x, x ∈ xs → ExT y x ∧ x.sz ≤ 120)) Q c x3 w := by
      intro b w xs' hbb gw hcm hpw hxw
      unfold pv_8_addUses_129
      refine pc_right gw.1 (vx.up gw) (fun t vt et => ?_)
      rw [gw.oc gy.1 vx.1 vx.2, e] at et
      have et : oc w t = l := et
      exact ⟨rfl, b, xs', gy.tr gw, fun q => absurd va0 q, vt, by rw [et]; exact uhl, by rw [et]; exact hbb, hcm, by rw [et]; exact hpw, hxw⟩
    refine pc_left gy.1 vx (fun v3 vv3 e3 => ?_)
    rw [e] at e3
    have e3 : oc y v3 = h := e3
    refine pc_item gy.1 vv3 (by decide) (fun v4 vv4 e4 => ?_)
    rw [e3] at e4
    have e4 : oc y v4 = Ob.item h 1 := e4
    have y6 : y.2.1 6 = v.2.1 6 := gy.2.2.2 6 (by decide)
    have hDy := hD.mono hT gy (gy.2.2.1 0 (by decide)) (fun k hk => gy.2.2.2 k (by unfold f8Yr; simp only [Bool.or_eq_false_iff, decide_eq_false_iff_not]; omega))
    have hTy := hTo.mono hT gy (gy.2.2.1 1 (by decide)) (fun k h1 h2 => gy.2.2.2 k (by unfold f8Yr; simp only [Bool.or_eq_false_iff, decide_eq_false_iff_not]; omega)) (gy.2.2.2 50 (by decide))
    have skip : Sp.usesOf E (h :: Ob.toList l) = Sp.usesOf E (Ob.toList l) → pv_8_addUses_129 (fun x1 x3 y => x1 = c ∧ ∃ (B' : Int) (xs : List Ob), CG f8Yn f8Yr v y ∧ (v.1 32 ≠ 0 → y.1 32 ≠ 0) ∧ VN y x3 ∧ (∀ h, h ∈ Ob.toList (oc y x3) → UsH E h) ∧ B' + cpH (Ob.toList (oc y x3)) ≤ B + cpH (Ob.toList (oc v a)) ∧ (y.1 32 = 0 → CmC E c v y) ∧ PdK_d B' (δ + 600) n r u y R (Sp.bd (Sp.usesGo (Sp.usesOf E (Ob.toList (oc y x3))) (clC y c) xs) K) ∧ (y.1 32 = 0 → ∀ x, x ∈ xs → ExT y x ∧ x.sz ≤ 120)) Q c x3 y := fun eu => next B' y xs (by omega) (CG.rf gy.1) hCm (by rw [← eu]; exact hPy.w) hxs
    refine pc_theoremOf gy.1 hTy vv4 (fun hno => ?_) (fun j k hj hk _ hth => ?_)
    · rw [e4] at hno
      refine pc_left gy.1 vv3 (fun v6 vv6 e6 => ?_)
      have k26 := katC gy.1 26 (o := Ob.use) (by decide) (by decide) rfl vv6.1 vv6.2
      rw [e6, e3] at k26
      refine ⟨fun q => skip (usesOf_no (fun q2 => q (k26.mpr q2))), fun q => ⟨fun _ => ?_, fun q2 => absurd rfl q2⟩⟩
      have := (uh (k26.mp (Decidable.not_not.mp q))).1.2
      rw [hno] at this
      cases this
    rw [e4] at hth
    refine pc_left gy.1 vv3 (fun v6 vv6 e6 => ?_)
    have k26 := katC gy.1 26 (o := Ob.use) (by decide) (by decide) rfl vv6.1 vv6.2
    rw [e6, e3] at k26
    refine ⟨fun q => skip (usesOf_no (fun q2 => q (k26.mpr q2))), fun q => ⟨fun q2 => by omega, fun _ => ?_⟩⟩
    have hu := k26.mp (Decidable.not_not.mp q)
    obtain ⟨⟨hps, _⟩, hlen, hit, hsz⟩ := uh hu
    obtain ⟨ps, eps⟩ := Option.isSome_iff_exists.mp hps
    rw [usesOf_yes hu hth eps, uses_cons] at hPy
    obtain ⟨_, ⟨k', ek', hk1⟩, _⟩ := hTy.2 j hj
    have ekk : k' = k := by rw [hk] at ek'; exact (Option.some.inj ek').symm
    rw [ekk] at hk1
    refine pc_right gy.1 vv3 (fun v8 vv8 e8 => ?_)
    rw [e3] at e8
    refine pc_right gy.1 vv8 (fun v9 vv9 e9 => ?_)
    rw [e8] at e9
    have m1 : ∀ o : Ob, Mono (Sp.bd (Sp.mkNot o) (fun z => Sp.bd (Sp.usesGo (Sp.usesOf E (Ob.toList l)) (Sp.putL (clC y c) z) (o :: xs)) K)) := fun o => Mono.bd Mono.not (fun _ => mono0 _ _ _)
    have free := hPy.free (c := cpL (Ob.toList (Ob.rgt (Ob.rgt h)))) (fit.le (by omega)) (Mono.bd Mono.big m1) ya
    refine pc_bindPairs gy.1 hDy ((gy.2.2.1 37 (by decide)).trans h37) h6 hs0 vv9 (by rw [e9]; exact hlen) (by rw [e9]; exact hit) (by rw [e9]; exact hsz) ya (by rw [e9]; exact free) (fun w _ _ _ hnone => ?_) (fun w ps' gw wa w29 hBw eBw hsome hpw => ?_)
    · rw [e9, eps] at hnone; cases hnone
    rw [e9] at w29 hsome
    have eps' : ps' = ps := by rw [eps] at hsome; exact (Option.some.inj hsome).symm
    rw [eps'] at eBw hpw
    have P1 := hPy.more (c := cpL (Ob.toList (Ob.rgt (Ob.rgt h)))) gw hn (fun k h => f8p_Y k (hr k h)) (by omega) (gw.2.2.1 30 (by decide)) (gw.2.2.1 31 (by decide)) (by rw [wa, ya])
    intro _ _ v11 e11 _
    have w6r : w.2.1 6 = v.2.1 6 := (gw.2.2.2 6 (by decide)).trans y6
    rw [w6r] at e11
    have gvw : CG f8Yn f8Yr v w := gy.tr (gw.mono (fun _ h => h) f8p_Y)
    have hj' : (j : Int) < v.1 1 := by rw [← gy.2.2.1 1 (by decide)]; exact hj
    have nf := hFm j hj'
    rw [← e11] at nf
    obtain ⟨nfw, efw⟩ := nf.up hT gvw
    have ef : k.form = oc w v11 := by
      rw [hk1.2.1, y6, efw, e11]
      exact gy.oc hT (hFm j hj').1.1 (hFm j hj').1.2
    rw [ef] at P1
    have fit1 : Fit (B' + cpL (Ob.toList (Ob.rgt (Ob.rgt h)))) R := fit.le (by omega)
    refine pc_fillGU P1 nB rW fit1 m1 h6 nfw hBw (fun x _ => by rw [eBw]) (fun x hx => by rw [eBw]; exact lkD_w (P := fun y => Ob.wt (Sp.arOf E) y ∧ y.sz ≤ 120) _ (fun pr hp => (hpw pr hp).2) (var_w hx)) (fun _ x hx => ⟨(hxs ya x hx).1.up gy.1 gw, (hxs ya x hx).2⟩) (fun v12 w1 g1 w1d n12 P2 _ => ?_)
    refine pc_negN P2 nB rW fit1 (fun _ => mono0 _ _ _) n12 (fun v13 w2 g2 w2d n13 P3 _ => ?_)
    have g12 := g1.tr g2
    have gy2 : CG f8Yn f8Yr y w2 := (gw.mono (fun _ h => h) f8p_Y).tr (g12.mono f8B_Y f8W_Y)
    have rows2 : ∀ k, 46 ≤ k → k ≤ 49 → w2.2.1 k = y.2.1 k := fun k h1 h2 => (f8B_rows g12 k h1 h2).trans (f8p_rows gw k h1 h2)
    obtain ⟨W2, l2⟩ := hW.up gy.1 gy2 rows2
    rw [← l2] at P3
    refine pc_joinP (K := fun l' => Sp.bd (Sp.usesGo (Sp.usesOf E (Ob.toList l)) l' (oc w1 v12 :: xs)) K) P3 (fun j h => f8T_Y j (hn j h)) (fun j h => f8C_Y j (hr j h)) (fun _ => ⟨W2, by rw [l2]; exact hb⟩) n13 (fun l' h => uses_die hKd _ l' _ h) (fun w3 g3 _ w3d hal3 P4 => ?_)
    have gw13 : CG f8Yn f8Yr w1 w3 := (g2.mono f8B_Y f8W_Y).tr (g3.mono f8T_Y f8C_Y)
    refine next _ w3 (oc w1 v12 :: xs) (by omega) (gy2.tr (g3.mono f8T_Y f8C_Y)) (fun q3 => ?_) P4.w (fun q3 x hx => ?_)
    rotate_left
    · have w2a : w2.1 32 = 0 := by
        by_cases q : w2.1 32 = 0
        · exact q
        · exact absurd q3 (w3d q)
      have w1a : w1.1 32 = 0 := by
        by_cases q : w1.1 32 = 0
        · exact q
        · exact absurd w2a (w2d q)
      rcases List.mem_cons.mp hx with q | q
      · have nn := n12.2.2 w1a
        rw [q]
        exact ⟨ExT.up ⟨v12, nn.1, rfl⟩ g1.1 gw13, nn.2.2⟩
      · exact ⟨(hxs ya x q).1.up gy.1 (gy2.tr (g3.mono f8T_Y f8C_Y)), (hxs ya x q).2⟩
    obtain ⟨ck, W3, b3, e48⟩ := hal3 q3
    refine ⟨ho.tr ((OtC.of rows2).tr (ck.ot (fun j hj => hj))), W3, b3, ?_⟩
    rw [e48, rows2 48 (by decide) (by decide)]
    exact h48
