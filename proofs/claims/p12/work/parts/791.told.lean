-- deps: 790
/-! the class: a command as told -/
theorem Ran_head [DecidableEq Ob] {H : Sp.Hs} {fuel : Nat} {o : Ob} (h : Ob.len o < 1) : Sp.Ran H fuel o (Sp.nothing H) := by
  by_cases c1 : Ob.lft o = Ob.eval
  · refine Ran_eval c1 ?_
    rw [if_neg (by omega)]
  by_cases c2 : Ob.lft o = Ob.simplify
  · refine Ran_simplify c2 ?_
    rw [if_neg (by omega)]
  by_cases c3 : Ob.lft o = Ob.prove
  · exact Ran_prove c3 (RanT_1 (fun z => by have := z.1; omega))
  by_cases c4 : Ob.lft o = Ob.defthm
  · exact Ran_defthm c4 (RanT_1 (fun z => by have := z.1; omega))
  by_cases c5 : Ob.lft o = Ob.defun
  · exact Ran_defun c5 (RanD_1 (fun z => by have := z.1; omega))
  by_cases c6 : Ob.lft o = Ob.check
  · refine Ran_check c6 ?_
    rw [if_neg (fun z => by have := z.1; omega)]
  by_cases c7 : Ob.lft o = Ob.on
  · refine Ran_turn (Or.inl c7) ?_
    rw [if_neg (fun z => by have := z.1; omega)]
  by_cases c8 : Ob.lft o = Ob.off
  · refine Ran_turn (Or.inr c8) ?_
    rw [if_neg (fun z => by have := z.1; omega)]
  by_cases c9 : Ob.lft o = Ob.undo
  · refine Ran_undo c9 ?_
    rw [if_neg (fun z => by have := z.1; omega)]
  exact Ran_else c1 c2 c3 c4 c5 c6 c7 c8 c9
def TrA [DecidableEq Ob] (v : iST) (E : Sp.Env) (o : Ob) (k : Nat) : Prop := NdC v E (v.1 45) ∧ Sp.rdAt E o k = some (oc v (v.1 45))
def NmA [DecidableEq Ob] (v : iST) (o : Ob) : Prop := VN v (v.1 44) ∧ oc v (v.1 44) = Ob.item o 1 ∧ Ob.isName (Ob.item o 1) = true
def HnA [DecidableEq Ob] (v : iST) (o : Ob) (k : Nat) : Prop := VN v (v.1 47) ∧ Ob.toList (oc v (v.1 47)) = (Ob.toList o).drop (k + 1)
def At1 [DecidableEq Ob] (H : Sp.Hs) (o : Ob) (v : iST) : Prop := Ob.lft o = Ob.eval ∧ Ob.len o = 2 ∧ TrA v (H.env []) o 1 ∧ (Ob.parts (oc v (v.1 45))).any Ob.isVar = false
def At2 [DecidableEq Ob] (H : Sp.Hs) (o : Ob) (v : iST) : Prop := Ob.lft o = Ob.simplify ∧ Ob.len o = 2 ∧ TrA v (H.env []) o 1
def At3 [DecidableEq Ob] (H : Sp.Hs) (o : Ob) (v : iST) (k : Nat) : Prop := ((Ob.lft o = Ob.prove ∧ k = 1) ∨ (Ob.lft o = Ob.defthm ∧ k = 2 ∧ NmA v o)) ∧ (k : Int) < Ob.len o ∧ TrA v (H.env []) o k ∧ HnA v o k
def At4 [DecidableEq Ob] (H : Sp.Hs) (o : Ob) (v : iST) : Prop := Ob.lft o = Ob.defun ∧ NmA v o ∧ DfA H o v 1
def At5 [DecidableEq Ob] (H : Sp.Hs) (o : Ob) (v : iST) : Prop := Ob.lft o = Ob.check ∧ Ob.len o = 4 ∧ NmA v o ∧ TrA v (H.env []) o 2
def At6 [DecidableEq Ob] (o : Ob) (v : iST) : Prop := (Ob.lft o = Ob.on ∨ Ob.lft o = Ob.off) ∧ Ob.len o = 2 ∧ NmA v o
def At7 [DecidableEq Ob] (o : Ob) : Prop := Ob.lft o = Ob.undo ∧ Ob.len o = 1
def AtD [DecidableEq Ob] (H : Sp.Hs) (o : Ob) (v : iST) : Prop := (At1 H o v ∧ v.1 44 = -1 ∧ v.1 46 = -1 ∧ v.1 47 = 0) ∨ (At2 H o v ∧ v.1 44 = -1 ∧ v.1 46 = -1 ∧ v.1 47 = 0) ∨ (∃ k, At3 H o v k ∧ (k = 1 → v.1 44 = -1) ∧ v.1 46 = -1) ∨ (At4 H o v ∧ v.1 47 = 0) ∨ (At5 H o v ∧ v.1 46 = -1 ∧ v.1 47 = 0) ∨ (At6 o v ∧ v.1 46 = -1 ∧ v.1 47 = 0) ∨ (At7 o ∧ v.1 44 = -1 ∧ v.1 46 = -1 ∧ v.1 47 = 0)
def AtO [DecidableEq Ob] (H : Sp.Hs) (o : Ob) (v : iST) (r : Int) : Prop := (r = 0 ∧ ∀ fuel, Sp.Ran H fuel o (Sp.nothing H)) ∨ (r = 1 ∧ AtD H o v)
theorem rr_drop1 [DecidableEq Ob] {o : Ob} : Ob.toList (Ob.rgt (Ob.rgt o)) = (Ob.toList o).drop 2 := by
  cases o with
  | var x => rfl
  | op a b =>
    cases b with
    | var y => rfl
    | op c d => rfl
theorem rr_drop2 [DecidableEq Ob] {o : Ob} : Ob.toList (Ob.rgt (Ob.rgt (Ob.rgt o))) = (Ob.toList o).drop 3 := by
  cases o with
  | var x => rfl
  | op a b =>
    cases b with
    | var y => rfl
    | op c d =>
      cases d with
      | var z => rfl
      | op e f => rfl
theorem pc_isAsTold [DecidableEq Ob] {a : Int} {Q : Int → iST → Prop} {u : iST} {H : Sp.Hs} (hR : RdE u (H.env [])) (va : VN u a) (hz : npr (oc u a) ≤ 100000) (hroom : u.1 29 + 2 * npr (oc u a) ≤ 160000) (h44 : u.1 44 = -1) (h46 : u.1 46 = -1) (h47 : u.1 47 = 0)
    (hq : ∀ r v, CG f8Dn f8Dr u v → RdE v (H.env []) → v.1 29 ≤ u.1 29 + askM (oc u a) → AtO H (oc u a) v r → Q r v) : pv_11_isAsTold a Q u := by
  obtain ⟨hT, hD, h37, h32, hs0⟩ := hR
  have hR : RdE u (H.env []) := ⟨hT, hD, h37, h32, hs0⟩
  generalize eo : oc u a = o at *
  have np := npr_pos o
  obtain ⟨ask0, ask1, ask2, ask3⟩ := askM_k o
  have lo : ∀ j, j ≤ 4 → f8Dr j = false := fun j hj => by unfold f8Dr; simp only [Bool.or_eq_false_iff, decide_eq_false_iff_not]; omega
  have no0 : (∀ fuel, Sp.Ran H fuel o (Sp.nothing H)) → Q 0 u := fun h => hq 0 u (CG.rf hT) hR (by omega) (Or.inl ⟨rfl, h⟩)
  -- a state in which the name alone was asked
  have nm : ∀ (P : Int → iST → Prop), (∀ r v, CG f8Dn f8Dr u v → RdE v (H.env []) → oc v a = o → VN v a → (∀ k, k ≠ 44 → v.1 k = u.1 k) → VN v (v.1 44) → oc v (v.1 44) = Ob.item o 1 → bq r (Ob.isName (Ob.item o 1)) → P r v) → pv_11_isNameAt a P u := fun P h => by
    refine pc_isNameAt hT va (fun r v g v2 vn w1 w2 hr => h r v g ⟨g.1, hD.mono hT g (vn 0 (by decide)) (fun k hk => g.2.2.2 k (lo k hk)), by rw [vn 37 (by decide)]; exact h37, by rw [vn 32 (by decide)]; exact h32, hs0⟩ ((g.oc hT va.1 va.2).trans eo) (va.up g) vn w1 ?_ ?_)
    · rw [← eo]; exact w2
    · rw [← eo]; exact hr
  have main : ∀ y0, (∀ (c : Int) (s : Ob), 17 ≤ c → c < 26 → Ob.knownC[c.toNat]? = some s → (y0 = c ↔ (1 ≤ Ob.len o ∧ Ob.lft o = s))) → pv_11_isAsTold_26 Q a (Ob.len o) y0 u := by
    intro y0 hy
    have k17 := hy 17 Ob.eval (by decide) (by decide) rfl
    have k18 := hy 18 Ob.simplify (by decide) (by decide) rfl
    have k19 := hy 19 Ob.prove (by decide) (by decide) rfl
    have k20 := hy 20 Ob.defun (by decide) (by decide) rfl
    have k21 := hy 21 Ob.defthm (by decide) (by decide) rfl
    have k22 := hy 22 Ob.check (by decide) (by decide) rfl
    have k23 := hy 23 Ob.on (by decide) (by decide) rfl
    have k24 := hy 24 Ob.off (by decide) (by decide) rfl
    have k25 := hy 25 Ob.undo (by decide) (by decide) rfl
    unfold pv_11_isAsTold_26
    refine ⟨fun c => ?_, fun c17 => ⟨fun c => ?_, fun c18 => ⟨fun c => ?_, fun c19 => ⟨fun c => ?_, fun c20 => ⟨fun c => ?_, fun c21 => ⟨fun c => ?_, fun c22 => ⟨fun c => ?_, fun c23 => ⟨fun c => ?_, fun c24 => ⟨fun c => ?_, fun c25 => ?_⟩⟩⟩⟩⟩⟩⟩⟩⟩
    · -- eval
      have ho := (k17.mp c).2
      refine ⟨fun l2 _ => no0 (fun fuel => Ran_eval ho (by rw [if_neg l2])), fun l2 => ?_⟩
      have l2 := Decidable.not_not.mp l2
      refine pc_isTermAt (k := 1) hR va (by rw [eo]; exact hz) (by rw [eo]; omega) (fun r v g hv v29 vn hor => ?_)
      rw [eo] at v29 hor
      rcases hor with ⟨q1, q2⟩ | ⟨q1, q2, q3⟩
      · refine ⟨fun _ _ => hq 0 v g hv (by omega) (Or.inl ⟨rfl, fun fuel => Ran_eval ho (by rw [if_pos l2, q2])⟩), fun z => absurd q1 z⟩
      refine ⟨fun z => by omega, fun _ => ?_⟩
      intro v4 e4 _
      rw [e4]
      obtain ⟨z0, z1⟩ := VN.zero g.1
      refine pc_hasVariablesOf (ar := Sp.arOf (H.env [])) g.1 q2.1 q2.2.1 q2.2.2 z0 (fun s w gw cw hs => ?_)
      rw [z1] at hs
      have gD : CG f8Dn f8Dr v w := gw.mono f80_D f8q_D
      have wn : w.1 = v.1 := funext (fun j => gw.2.2.1 j rfl)
      have ow : ∀ j, oc w j = oc v j := fun j => oc_same cw j
      have hw : RdE w (H.env []) := ⟨gw.1, hv.2.1.mono hv.1 gD (by rw [wn]) (fun k hk => gD.2.2.2 k (lo k hk)), by rw [wn]; exact hv.2.2.1, by rw [wn]; exact hv.2.2.2.1, hs0⟩
      have key : (Ob.parts (oc v (v.1 45))).all (fun x => !Ob.isVar x || Ob.has (Ob.toList Ob.nil) x) = !(Ob.parts (oc v (v.1 45))).any Ob.isVar := by
        have e : (fun x => !Ob.isVar x || Ob.has (Ob.toList Ob.nil) x) = fun x => !Ob.isVar x := funext (fun x => by
          have : Ob.has (Ob.toList Ob.nil) x = false := rfl
          rw [this, Bool.or_false])
        rw [e, List.not_any_eq_all_not]
      rw [key] at hs
      refine ⟨fun sz _ => hq 0 w (g.tr gD) hw (by rw [wn]; omega) (Or.inl ⟨rfl, fun fuel => Ran_eval ho ?_⟩), fun sz _ => hq 1 w (g.tr gD) hw (by rw [wn]; omega) (Or.inr ⟨rfl, Or.inl ⟨⟨ho, l2, ⟨?_, ?_⟩, ?_⟩, ?_, ?_, ?_⟩⟩)⟩
      · rw [if_pos l2, q3]
        have hn := hs.f sz
        have hn : (Ob.parts (oc v (v.1 45))).any Ob.isVar = true := by
          cases hh : (Ob.parts (oc v (v.1 45))).any Ob.isVar with
          | true => rfl
          | false => rw [hh] at hn; cases hn
        show (if _ then _ else _)
        rw [if_pos hn]
      · rw [wn]; exact (q2.up hv.1 gD).1
      · rw [wn, ow]; exact q3
      · rw [wn, ow]
        have hn := hs.t sz
        cases hh : (Ob.parts (oc v (v.1 45))).any Ob.isVar with
        | false => rfl
        | true => rw [hh] at hn; cases hn
      · rw [wn, vn 44 (by decide) (by decide) (by decide)]; exact h44
      · rw [wn, vn 46 (by decide) (by decide) (by decide)]; exact h46
      · rw [wn, vn 47 (by decide) (by decide) (by decide)]; exact h47
    · -- simplify
      have ho := (k18.mp c).2
      refine ⟨fun l2 _ => no0 (fun fuel => Ran_simplify ho (by rw [if_neg l2])), fun l2 => ?_⟩
      have l2 := Decidable.not_not.mp l2
      refine pc_isTermAt (k := 1) hR va (by rw [eo]; exact hz) (by rw [eo]; omega) (fun r v g hv v29 vn hor => ?_)
      rw [eo] at v29 hor
      rcases hor with ⟨q1, q2⟩ | ⟨q1, q2, q3⟩
      · refine ⟨fun _ _ => hq 0 v g hv (by omega) (Or.inl ⟨rfl, fun fuel => Ran_simplify ho (by rw [if_pos l2, q2])⟩), fun z => absurd q1 z⟩
      refine ⟨fun z => by omega, fun _ _ => hq 1 v g hv (by omega) (Or.inr ⟨rfl, Or.inr (Or.inl ⟨⟨ho, l2, q2, q3⟩, ?_, ?_, ?_⟩)⟩)⟩
      · rw [vn 44 (by decide) (by decide) (by decide)]; exact h44
      · rw [vn 46 (by decide) (by decide) (by decide)]; exact h46
      · rw [vn 47 (by decide) (by decide) (by decide)]; exact h47
    · -- prove
      have ho := (k19.mp c).2
      refine pc_right hT va (fun t1 vt1 et1 => pc_right hT vt1 (fun t2 vt2 et2 => ?_))
      rw [et1, eo] at et2
      intro y ey
      have g0 : CG f8Dn f8Dr u y := by rw [ey]; exact CG_I hT (by decide) (by decide)
      have yn : ∀ k, k ≠ 47 → y.1 k = u.1 k := fun k hk => by rw [ey, iIc_ne _ _ hk]
      have y47 : y.1 47 = t2 := by rw [ey, iIc_at]
      have hy : RdE y (H.env []) := ⟨g0.1, hD.mono hT g0 (yn 0 (by decide)) (fun k hk => g0.2.2.2 k (lo k hk)), by rw [yn 37 (by decide)]; exact h37, by rw [yn 32 (by decide)]; exact h32, hs0⟩
      have ey' : oc y a = o := (g0.oc hT va.1 va.2).trans eo
      have y29 : y.1 29 = u.1 29 := yn 29 (by decide)
      refine ⟨fun l2 _ => hq 0 y g0 hy (by omega) (Or.inl ⟨rfl, fun fuel => Ran_prove ho (RanT_1 (fun z => by have := z.1; omega))⟩), fun l2 => ?_⟩
      refine pc_isTermAt (k := 1) hy (va.up g0) (by rw [ey']; exact hz) (by rw [ey']; omega) (fun r v g hv v29 vn hor => ?_)
      rw [ey'] at v29 hor
      rcases hor with ⟨q1, q2⟩ | ⟨q1, q2, q3⟩
      · refine ⟨fun _ _ => hq 0 v (g0.tr g) hv (by omega) (Or.inl ⟨rfl, fun fuel => Ran_prove ho (RanT_2 q2)⟩), fun z => absurd q1 z⟩
      have v47 : v.1 47 = t2 := by rw [vn 47 (by decide) (by decide) (by decide)]; exact y47
      refine ⟨fun z => by omega, fun _ _ => hq 1 v (g0.tr g) hv (by omega) (Or.inr ⟨rfl, Or.inr (Or.inr (Or.inl ⟨1, ⟨Or.inl ⟨ho, rfl⟩, ?_, ⟨q2, q3⟩, ?_, ?_⟩, fun _ => ?_, ?_⟩))⟩)⟩
      · show (1 : Int) < Ob.len o; omega
      · rw [v47]; exact (vt2.up g0).up g
      · rw [v47, (g0.tr g).oc hT vt2.1 vt2.2, et2]; exact rr_drop1
      · rw [vn 44 (by decide) (by decide) (by decide), yn 44 (by decide)]; exact h44
      · rw [vn 46 (by decide) (by decide) (by decide), yn 46 (by decide)]; exact h46
    · -- defun
      have ho := (k20.mp c).2
      have e262 : ((Ob.len o = 4) ∨ (Ob.len o = 5)) → pv_11_isAsTold_262 Q a (Ob.len o) u := fun hl => by
        unfold pv_11_isAsTold_262
        refine nm _ (fun r v g hv ov vv vn w1 w2 hr => ⟨fun rz _ => hq 0 v g hv (by rw [vn 29 (by decide)]; omega) (Or.inl ⟨rfl, fun fuel => Ran_defun ho (RanD_1 (fun z => ?_))⟩), fun rz => ?_⟩)
        · have := hr.f rz
          rw [z.2.1] at this
          cases this
        have hn := hr.t rz
        have fin : ∀ b, (Ob.len o = 4 ∧ b = 0) ∨ (Ob.len o = 5 ∧ b = 1) → pv_11_isAsTold_282 Q a b v := fun b hb => by
          unfold pv_11_isAsTold_282
          refine pc_isDefinition hv vv (by rw [ov]; exact hz) (by rw [ov, vn 29 (by decide)]; exact hroom) w1 (by rw [ov]; exact w2) (by rw [ov]; exact hn) (by rw [ov]; exact hb) (fun s w gw hw w29 w44 w47 hA => ?_)
          rw [ov] at w29 hA
          rw [vn 29 (by decide)] at w29
          have w29 : w.1 29 ≤ u.1 29 + askM o := by have := ask3 ho; omega
          have gg := g.tr gw
          rcases hA with ⟨q1, q2⟩ | q
          · refine ⟨fun _ _ => hq 0 w gg hw w29 (Or.inl ⟨rfl, fun fuel => Ran_defun ho (q2 fuel)⟩), fun z => absurd q1 z⟩
          · refine ⟨fun z => by have := q.1; omega, fun _ _ => hq 1 w gg hw w29 (Or.inr ⟨rfl, Or.inr (Or.inr (Or.inr (Or.inl ⟨⟨ho, ⟨?_, ?_, hn⟩, Or.inr ⟨rfl, q.2⟩⟩, ?_⟩)))⟩)⟩
            · rw [w44]; exact w1.up gw
            · rw [w44, gw.oc hv.1 w1.1 w1.2]; exact w2
            · rw [w47, vn 47 (by decide)]; exact h47
        exact ⟨fun l5 => fin 0 (by omega), fun l5 => fin 1 (by omega)⟩
      refine ⟨fun l4 => e262 (Or.inl l4), fun l4 => ⟨fun l5 _ => no0 (fun fuel => Ran_defun ho (RanD_1 (fun z => by have := z.1; omega))), fun l5 => e262 (by omega)⟩⟩
    · -- defthm
      have ho := (k21.mp c).2
      refine pc_right hT va (fun t1 vt1 et1 => pc_right hT vt1 (fun t2 vt2 et2 => pc_right hT vt2 (fun t3 vt3 et3 => ?_)))
      rw [et2, et1, eo] at et3
      intro y ey
      have g0 : CG f8Dn f8Dr u y := by rw [ey]; exact CG_I hT (by decide) (by decide)
      have yn : ∀ k, k ≠ 47 → y.1 k = u.1 k := fun k hk => by rw [ey, iIc_ne _ _ hk]
      have y47 : y.1 47 = t3 := by rw [ey, iIc_at]
      have hy : RdE y (H.env []) := ⟨g0.1, hD.mono hT g0 (yn 0 (by decide)) (fun k hk => g0.2.2.2 k (lo k hk)), by rw [yn 37 (by decide)]; exact h37, by rw [yn 32 (by decide)]; exact h32, hs0⟩
      have ey' : oc y a = o := (g0.oc hT va.1 va.2).trans eo
      have y29 : y.1 29 = u.1 29 := yn 29 (by decide)
      refine ⟨fun l2 _ => hq 0 y g0 hy (by omega) (Or.inl ⟨rfl, fun fuel => Ran_defthm ho (RanT_1 (fun z => by have := z.1; omega))⟩), fun l2 => ?_⟩
      refine pc_isNameAt g0.1 (va.up g0) (fun r v g v2 vn w1 w2 hr => ?_)
      rw [ey'] at w2 hr
      have gv := g0.tr g
      have hv : RdE v (H.env []) := ⟨g.1, hy.2.1.mono g0.1 g (vn 0 (by decide)) (fun k hk => g.2.2.2 k (lo k hk)), by rw [vn 37 (by decide)]; exact hy.2.2.1, by rw [vn 32 (by decide)]; exact hy.2.2.2.1, hs0⟩
      have v29 : v.1 29 = u.1 29 := by rw [vn 29 (by decide)]; exact y29
      refine ⟨fun rz _ => hq 0 v gv hv (by omega) (Or.inl ⟨rfl, fun fuel => Ran_defthm ho (RanT_1 (fun z => ?_))⟩), fun rz => ?_⟩
      · have := hr.f rz
        rw [z.2.1 rfl] at this
        cases this
      have hn := hr.t rz
      have ov : oc v a = o := (gv.oc hT va.1 va.2).trans eo
      refine pc_isTermAt (k := 2) hv (va.up gv) (by rw [ov]; exact hz) (by rw [ov]; omega) (fun s w gw hw w29 wn hor => ?_)
      rw [ov] at w29 hor
      have ask2' := ask2 (by rw [ho]; exact Ob.sym_ne (by decide))
      have gg := gv.tr gw
      rcases hor with ⟨q1, q2⟩ | ⟨q1, q2, q3⟩
      · refine ⟨fun _ _ => hq 0 w gg hw (by omega) (Or.inl ⟨rfl, fun fuel => Ran_defthm ho (RanT_2 q2)⟩), fun z => absurd q1 z⟩
      have w47 : w.1 47 = t3 := by rw [wn 47 (by decide) (by decide) (by decide), vn 47 (by decide)]; exact y47
      have w44 : w.1 44 = v.1 44 := wn 44 (by decide) (by decide) (by decide)
      refine ⟨fun z => by omega, fun _ _ => hq 1 w gg hw (by omega) (Or.inr ⟨rfl, Or.inr (Or.inr (Or.inl ⟨2, ⟨Or.inr ⟨ho, rfl, ?_, ?_, hn⟩, ?_, ⟨q2, q3⟩, ?_, ?_⟩, (fun z => by cases z), ?_⟩))⟩)⟩
      · rw [w44]; exact w1.up gw
      · rw [w44, gw.oc g.1 w1.1 w1.2]; exact w2
      · show (2 : Int) < Ob.len o; omega
      · rw [w47]; exact vt3.up gg
      · rw [w47, gg.oc hT vt3.1 vt3.2, et3]; exact rr_drop2
      · rw [wn 46 (by decide) (by decide) (by decide), vn 46 (by decide), yn 46 (by decide)]; exact h46
    · -- check
      have ho := (k22.mp c).2
      refine ⟨fun l4 _ => no0 (fun fuel => Ran_check ho (by rw [if_neg (fun z => l4 z.1)])), fun l4 => ?_⟩
      have l4 := Decidable.not_not.mp l4
      refine nm _ (fun r v g hv ov vv vn w1 w2 hr => ⟨fun rz _ => hq 0 v g hv (by rw [vn 29 (by decide)]; omega) (Or.inl ⟨rfl, fun fuel => Ran_check ho ?_⟩), fun rz => ?_⟩)
      · rw [if_neg (fun z => by
          have := hr.f rz
          rw [z.2] at this
          cases this)]
      have hn := hr.t rz
      refine pc_isTermAt (k := 2) hv vv (by rw [ov]; exact hz) (by rw [ov, vn 29 (by decide)]; omega) (fun s w gw hw w29 wn hor => ?_)
      rw [ov] at w29 hor
      rw [vn 29 (by decide)] at w29
      have ask2' := ask2 (by rw [ho]; exact Ob.sym_ne (by decide))
      have gg := g.tr gw
      rcases hor with ⟨q1, q2⟩ | ⟨q1, q2, q3⟩
      · refine ⟨fun _ _ => hq 0 w gg hw (by omega) (Or.inl ⟨rfl, fun fuel => Ran_check ho (by rw [if_pos ⟨l4, hn⟩, q2])⟩), fun z => absurd q1 z⟩
      have w44 : w.1 44 = v.1 44 := wn 44 (by decide) (by decide) (by decide)
      refine ⟨fun z => by omega, fun _ _ => hq 1 w gg hw (by omega) (Or.inr ⟨rfl, Or.inr (Or.inr (Or.inr (Or.inr (Or.inl ⟨⟨ho, l4, ⟨?_, ?_, hn⟩, q2, q3⟩, ?_, ?_⟩))))⟩)⟩
      · rw [w44]; exact w1.up gw
      · rw [w44, gw.oc hv.1 w1.1 w1.2]; exact w2
      · rw [wn 46 (by decide) (by decide) (by decide), vn 46 (by decide)]; exact h46
      · rw [wn 47 (by decide) (by decide) (by decide), vn 47 (by decide)]; exact h47
    · -- on
      have ho := (k23.mp c).2
      refine ⟨fun l2 _ => no0 (fun fuel => Ran_turn (Or.inl ho) (by rw [if_neg (fun z => l2 z.1)])), fun l2 => ?_⟩
      have l2 := Decidable.not_not.mp l2
      refine nm _ (fun r v g hv ov vv vn w1 w2 hr => ⟨fun rz _ => hq 0 v g hv (by rw [vn 29 (by decide)]; omega) (Or.inl ⟨rfl, fun fuel => Ran_turn (Or.inl ho) ?_⟩), fun rz _ => hq 1 v g hv (by rw [vn 29 (by decide)]; omega) (Or.inr ⟨rfl, Or.inr (Or.inr (Or.inr (Or.inr (Or.inr (Or.inl ⟨⟨Or.inl ho, l2, w1, w2, hr.t rz⟩, by rw [vn 46 (by decide)]; exact h46, by rw [vn 47 (by decide)]; exact h47⟩)))))⟩)⟩)
      rw [if_neg (fun z => by
          have := hr.f rz
          rw [z.2.1] at this
          cases this)]
    · -- off
      have ho := (k24.mp c).2
      refine ⟨fun l2 _ => no0 (fun fuel => Ran_turn (Or.inr ho) (by rw [if_neg (fun z => l2 z.1)])), fun l2 => ?_⟩
      have l2 := Decidable.not_not.mp l2
      refine nm _ (fun r v g hv ov vv vn w1 w2 hr => ⟨fun rz _ => hq 0 v g hv (by rw [vn 29 (by decide)]; omega) (Or.inl ⟨rfl, fun fuel => Ran_turn (Or.inr ho) ?_⟩), fun rz _ => hq 1 v g hv (by rw [vn 29 (by decide)]; omega) (Or.inr ⟨rfl, Or.inr (Or.inr (Or.inr (Or.inr (Or.inr (Or.inl ⟨⟨Or.inr ho, l2, w1, w2, hr.t rz⟩, by rw [vn 46 (by decide)]; exact h46, by rw [vn 47 (by decide)]; exact h47⟩)))))⟩)⟩)
      rw [if_neg (fun z => by
          have := hr.f rz
          rw [z.2.1] at this
          cases this)]
    · -- undo
      have ho := (k25.mp c).2
      exact ⟨fun l1 _ => no0 (fun fuel => Ran_undo ho (by rw [if_neg (fun z => l1 z.1)])), fun l1 _ => hq 1 u (CG.rf hT) hR (by omega) (Or.inr ⟨rfl, Or.inr (Or.inr (Or.inr (Or.inr (Or.inr (Or.inr ⟨⟨ho, Decidable.not_not.mp l1⟩, h44, h46, h47⟩)))))⟩)⟩
    · intro _
      refine no0 (fun fuel => ?_)
      by_cases l1 : Ob.len o < 1
      · exact Ran_head l1
      have ne : ∀ (c : Int) (s : Ob), (y0 = c ↔ (1 ≤ Ob.len o ∧ Ob.lft o = s)) → ¬ y0 = c → Ob.lft o ≠ s := fun c s h1 h2 z => h2 (h1.mpr ⟨by omega, z⟩)
      exact Ran_else (ne _ _ k17 c17) (ne _ _ k18 c18) (ne _ _ k19 c19) (ne _ _ k21 c21) (ne _ _ k20 c20) (ne _ _ k22 c22) (ne _ _ k23 c23) (ne _ _ k24 c24) (ne _ _ k25 c25)
  unfold pv_11_isAsTold
  refine pc_lengthOf hT va ?_
  rw [eo]
  refine ⟨fun l1 => pc_left hT va (fun f vf ef => main f (fun c s c0 c1 hs => ?_)), fun l1 => main (-1) (fun c s c0 c1 _ => ⟨fun z => by omega, fun z => absurd z.1 l1⟩)⟩
  rw [eo] at ef
  have := katC hT c (by omega) (by omega) hs vf.1 vf.2
  rw [this, ef]
  exact ⟨fun z => ⟨l1, z⟩, fun z => z.2⟩
