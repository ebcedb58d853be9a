-- deps: 766
/-! the class: PROOFS: terms that are read again and again; values -/
/-- how many pairs an object has, as it is written -/
def npr [DecidableEq Ob] : Ob → Int | .op a b => 1 + npr a + npr b | .var _ => 0
theorem npr_pos [DecidableEq Ob] : ∀ o : Ob, 0 ≤ npr o
  | .op a b => by
    have := npr_pos a
    have := npr_pos b
    show 0 ≤ 1 + npr a + npr b
    omega
  | .var _ => Int.le_refl _
theorem npr_lft [DecidableEq Ob] (o : Ob) : npr (Ob.lft o) + npr (Ob.rgt o) ≤ npr o := by
  cases o with
  | var x => exact Int.le_refl _
  | op a b => show npr a + npr b ≤ 1 + npr a + npr b; omega
theorem npr_item [DecidableEq Ob] : ∀ (k : Nat) (o : Ob), npr (Ob.item o k) ≤ npr o
  | _, .var x => by
    show npr Ob.nil ≤ 0
    exact Int.le_refl _
  | 0, .op a b => by
    have h1 := npr_pos b
    show npr a ≤ 1 + npr a + npr b
    omega
  | k + 1, .op a b => by
    have h1 := npr_pos a
    have h2 := npr_item k b
    show npr (Ob.item b k) ≤ 1 + npr a + npr b
    omega
theorem csM_np [DecidableEq Ob] : ∀ (m : Bool) (o : Ob), Ob.csM m o ≤ npr o ∧ Ob.szM m o ≤ npr o + (if m = true then 0 else 1)
  | true, .op a b => by
    obtain ⟨a1, a2⟩ := csM_np false a
    obtain ⟨b1, b2⟩ := csM_np true b
    have a2 : Ob.szM false a ≤ npr a + 1 := a2
    have b2 : Ob.szM true b ≤ npr b + 0 := b2
    exact ⟨by show 1 + Ob.csM false a + Ob.csM true b ≤ 1 + npr a + npr b; omega, by show Ob.szM false a + Ob.szM true b ≤ 1 + npr a + npr b + 0; omega⟩
  | true, .var _ => ⟨Int.le_refl _, by show (0 : Int) ≤ 0 + 0; decide⟩
  | false, .op a b => by
    obtain ⟨b1, b2⟩ := csM_np true b
    have b2 : Ob.szM true b ≤ npr b + 0 := b2
    have a0 := npr_pos a
    have b0 := npr_pos b
    refine ⟨?_, ?_⟩
    · show (if a = Ob.quote then 0 else 1 + Ob.csM true b) ≤ 1 + npr a + npr b
      split <;> omega
    · show (if a = Ob.quote then 1 else 1 + Ob.szM true b) ≤ 1 + npr a + npr b + 1
      split <;> omega
  | false, .var _ => ⟨Int.le_refl _, by show (1 : Int) ≤ 0 + 1; decide⟩
theorem csM_npr [DecidableEq Ob] (m : Bool) (o : Ob) : Ob.csM m o ≤ npr o ∧ Ob.szM m o ≤ npr o + 1 := by
  obtain ⟨h1, h2⟩ := csM_np m o
  refine ⟨h1, ?_⟩
  cases m with
  | true =>
    have h2 : Ob.szM true o ≤ npr o + 0 := h2
    omega
  | false => exact h2
/-- a state in which terms can be read -/
def RdE [DecidableEq Ob] (u : iST) (E : Sp.Env) : Prop := CT u ∧ DOc u E ∧ u.1 37 = -1 ∧ u.1 32 = 0 ∧ ∀ f : Ob, f.isSym = false → Sp.arOf E f = -1
theorem RdE.up [DecidableEq Ob] {n r : Nat → Bool} {u v : iST} {E : Sp.Env} (h : RdE u E) (g : CG n r u v) (h0 : n 0 = false) (h37 : n 37 = false) (hr : ∀ k, k ≤ 4 → r k = false) (h32 : v.1 32 = 0) : RdE v E := ⟨g.1, h.2.1.mono h.1 g (g.2.2.1 0 h0) (fun k hk => g.2.2.2 k (hr k hk)), (g.2.2.1 37 h37).trans h.2.2.1, h32, h.2.2.2.2⟩
theorem f8W_lo [DecidableEq Ob] : ∀ k, k ≤ 4 → f8W k = false := fun k h => by
  unfold f8W
  simp only [Bool.or_eq_false_iff, decide_eq_false_iff_not]
  omega
theorem RdE.B [DecidableEq Ob] {u v : iST} {E : Sp.Env} (h : RdE u E) (g : CG f8B f8W u v) (h32 : v.1 32 = 0) : RdE v E := h.up g (by decide) (by decide) f8W_lo h32
theorem pc_readE [DecidableEq Ob] {k : Int} {Q : Int → iST → Prop} {u : iST} {E : Sp.Env} (hR : RdE u E) (hk : VN u k) (hz : npr (oc u k) ≤ 100000) (hroom : u.1 29 + npr (oc u k) ≤ 160000)
    (hq : ∀ r v, CG f8B f8W u v → RdE v E → v.1 29 ≤ u.1 29 + npr (oc u k) → ((r = -1 ∧ Ob.rdT (Sp.arOf E) (oc u k) = none) ∨ (NdC v E r ∧ Ob.rdT (Sp.arOf E) (oc u k) = some (oc v r))) → Q r v) : pv_10_rebuilt k 0 Q u := by
  obtain ⟨hT, hD, h37, h32, hs0⟩ := hR
  obtain ⟨c1, c2⟩ := csM_npr false (oc u k)
  have c2 : (oc u k).sz ≤ npr (oc u k) + 1 := c2
  refine pc_readX (ar := Sp.arOf E) hT hD (Or.inl ⟨h37, rfl⟩) (arOf6 hD) hs0 hk (by omega) h32 (by omega) (fun r v gv v29 v32 hor => hq r v gv (RdE.B ⟨hT, hD, h37, h32, hs0⟩ gv v32) (by omega) ?_)
  rcases hor with q | ⟨a, b, c, d⟩
  · exact Or.inl q
  · exact Or.inr ⟨⟨a, b, c⟩, d⟩
theorem pc_termAt [DecidableEq Ob] {a : Int} {k : Nat} {Q : Int → iST → Prop} {u : iST} {E : Sp.Env} (hR : RdE u E) (ha : VN u a) (hz : npr (oc u a) ≤ 100000) (hroom : u.1 29 + npr (Ob.item (oc u a) k) ≤ 160000)
    (hq : ∀ r v, CG f8B f8W u v → RdE v E → v.1 29 ≤ u.1 29 + npr (Ob.item (oc u a) k) → ((r = -1 ∧ Sp.rdAt E (oc u a) k = none) ∨ (NdC v E r ∧ Sp.rdAt E (oc u a) k = some (oc v r))) → Q r v) : pv_3_termAt a (k : Int) Q u := by
  unfold pv_3_termAt
  refine pc_item hR.1 ha (by omega) (fun t vt et => ?_)
  rw [show ((k : Int)).toNat = k by omega] at et
  have := npr_item k (oc u a)
  refine pc_readE hR vt (by rw [et]; omega) (by rw [et]; exact hroom) (fun r v gv hv v29 hor => hq r v gv hv (by rw [← et]; exact v29) ?_)
  unfold Sp.rdAt
  rw [← et]
  exact hor
theorem base_cd [DecidableEq Ob] {u : iST} (hT : CT u) {f : Int} (vf : VN u f) : (oc u f).isBase = true ↔ 3 ≤ f ∧ f ≤ 16 := by
  have k3 := katC hT 3 (o := Ob.ifS) (by decide) (by decide) rfl vf.1 vf.2
  have k4 := katC hT 4 (o := Ob.equal) (by decide) (by decide) rfl vf.1 vf.2
  have k5 := katC hT 5 (o := Ob.cons) (by decide) (by decide) rfl vf.1 vf.2
  have k6 := katC hT 6 (o := Ob.implies) (by decide) (by decide) rfl vf.1 vf.2
  have k7 := katC hT 7 (o := Ob.plus) (by decide) (by decide) rfl vf.1 vf.2
  have k8 := katC hT 8 (o := Ob.minus) (by decide) (by decide) rfl vf.1 vf.2
  have k9 := katC hT 9 (o := Ob.less) (by decide) (by decide) rfl vf.1 vf.2
  have k10 := katC hT 10 (o := Ob.consp) (by decide) (by decide) rfl vf.1 vf.2
  have k11 := katC hT 11 (o := Ob.car) (by decide) (by decide) rfl vf.1 vf.2
  have k12 := katC hT 12 (o := Ob.cdr) (by decide) (by decide) rfl vf.1 vf.2
  have k13 := katC hT 13 (o := Ob.natp) (by decide) (by decide) rfl vf.1 vf.2
  have k14 := katC hT 14 (o := Ob.symbolp) (by decide) (by decide) rfl vf.1 vf.2
  have k15 := katC hT 15 (o := Ob.height) (by decide) (by decide) rfl vf.1 vf.2
  have k16 := katC hT 16 (o := Ob.not) (by decide) (by decide) rfl vf.1 vf.2
  unfold Ob.isBase
  simp only [Bool.or_eq_true, decide_eq_true_eq, ← k3, ← k4, ← k5, ← k6, ← k7, ← k8, ← k9, ← k10, ← k11, ← k12, ← k13, ← k14, ← k15, ← k16]
  omega
/-- the value of (value L) -/
theorem pc_valueAt [DecidableEq Ob] {a : Int} {Q : Int → iST → Prop} {u : iST} {E : Sp.Env} (hR : RdE u E) (hDn : ∀ D, D ∈ E.defs → D.name.isName = true) (ha : VN u a) (hz : npr (oc u a) ≤ 100000) (hroom : u.1 29 + npr (Ob.item (oc u a) 1) + 1 ≤ 160000)
    (hq : ∀ r v, CG f8B f8W u v → RdE v E → v.1 29 ≤ u.1 29 + npr (Ob.item (oc u a) 1) + 1 → ((r = -1 ∧ (match Sp.rdAt E (oc u a) 1 with | some L => Sp.toldV L | none => none) = none) ∨ (VN v r ∧ (match Sp.rdAt E (oc u a) 1 with | some L => Sp.toldV L | none => none) = some (oc v r))) → Q r v) : pv_3_valueAt a Q u := by
  unfold pv_3_valueAt
  refine pc_item hR.1 ha (by decide) (fun t vt et => ?_)
  have et : oc u t = Ob.item (oc u a) 1 := et
  have hni := npr_item 1 (oc u a)
  refine pc_readE hR vt (by rw [et]; omega) (by rw [et]; omega) (fun x v gv hv v29 hor => ?_)
  rw [et] at v29 hor
  have hor : (x = -1 ∧ Sp.rdAt E (oc u a) 1 = none) ∨ (NdC v E x ∧ Sp.rdAt E (oc u a) 1 = some (oc v x)) := hor
  rcases hor with ⟨hx, hno⟩ | ⟨nx, hsm⟩
  · rw [hno] at hq
    rw [hx]
    unfold pv_7_left
    refine ⟨fun _ => ?_, fun q => absurd (by decide) q⟩
    unfold pv_7_isCall
    exact ⟨fun _ _ => ⟨fun _ => hq (-1) v gv hv (by omega) (Or.inl ⟨rfl, rfl⟩), fun q => absurd rfl q⟩, fun q => absurd (by decide) q⟩
  rw [hsm] at hq
  have hq : ∀ r w, CG f8B f8W u w → RdE w E → w.1 29 ≤ u.1 29 + npr (Ob.item (oc u a) 1) + 1 → ((r = -1 ∧ Sp.toldV (oc v x) = none) ∨ (VN w r ∧ Sp.toldV (oc v x) = some (oc w r))) → Q r w := hq
  have no : (Ob.isCall (oc v x) && Ob.isBase (Ob.lft (oc v x)) && (Ob.toList (Ob.rgt (oc v x))).all Ob.isConst) = false → Q (-1) v := fun h => hq (-1) v gv hv (by omega) (Or.inl ⟨rfl, by unfold Sp.toldV; rw [h]; rfl⟩)
  have hT := gv.1
  refine pc_left hT nx.1 (fun f vf ef => ?_)
  refine pc_isCall hT nx.1 (fun r1 h1 => ⟨fun z => no (by rw [h1.f z]; rfl), fun z => ?_⟩)
  have hc := h1.t z
  obtain ⟨l, e1, e2, e3, e4, e5, e6, e7⟩ := nx.args hc
  have hbs := base_cd hT vf
  rw [ef] at hbs
  refine ⟨fun q => no ?_, fun q => ?_⟩
  · have : Ob.isBase (Ob.lft (oc v x)) = false := bf_of (fun q2 => by have := hbs.mp q2; omega)
    rw [this, hc]; rfl
  have f3 : 3 ≤ f := by
    by_cases hb : Ob.isBase (Ob.lft (oc v x)) = true
    · exact (hbs.mp hb).1
    · obtain ⟨D, hDf⟩ := Option.isSome_iff_exists.mp (arOf_ne (E := E) (f := Ob.lft (oc v x)) (by omega) (bf_of hb)).1
      obtain ⟨m1, m2⟩ := dfn_mem hDf
      have hnm := hDn D m1
      rw [m2, ← ef] at hnm
      have := (oc_isName hT vf).mp hnm
      omega
  have hbase := hbs.mpr ⟨f3, by omega⟩
  refine pc_isOfConstants hT nx.1 (fun r2 h2 => ⟨fun z2 => ?_, fun z2 => no (by rw [h2.f (Decidable.not_not.mp z2), hc, hbase]; rfl)⟩)
  have hall := h2.t z2
  have hcond : (Ob.isCall (oc v x) && Ob.isBase (Ob.lft (oc v x)) && (Ob.toList (Ob.rgt (oc v x))).all Ob.isConst) = true := by rw [hc, hbase, hall]; rfl
  refine pc_item hT nx.1 (by decide) (fun t1 vt1 et1 => ?_)
  have et1 : oc v t1 = Ob.item (oc v x) 1 := et1
  refine pc_valueOf hT vt1 (fun w1 vw1 ew1 => ?_)
  refine pc_item hT nx.1 (by decide) (fun t2 vt2 et2 => ?_)
  have et2 : oc v t2 = Ob.item (oc v x) 2 := et2
  refine pc_valueOf hT vt2 (fun w2 vw2 ew2 => ?_)
  refine pc_item hT nx.1 (by decide) (fun t3 vt3 et3 => ?_)
  have et3 : oc v t3 = Ob.item (oc v x) 3 := et3
  refine pc_valueOf hT vt3 (fun w3 vw3 ew3 => ?_)
  rw [et1] at ew1
  rw [et2] at ew2
  rw [et3] at ew3
  have k3 := katC hT 3 (o := Ob.ifS) (by decide) (by decide) rfl vf.1 vf.2
  rw [ef] at k3
  by_cases hif : f = 3
  · have et : Sp.toldV (oc v x) = some (if Ob.valOf (Ob.item (oc v x) 1) = Ob.nil then Ob.valOf (Ob.item (oc v x) 3) else Ob.valOf (Ob.item (oc v x) 2)) := by
      unfold Sp.toldV
      rw [if_pos hcond, if_pos (k3.mp hif)]
    have kn := oc_nil hT vw1
    rw [ew1] at kn
    unfold pv_2_baseValue
    refine ⟨fun _ => ⟨fun q1 => ?_, fun q1 => ?_⟩, fun q1 => absurd hif q1⟩
    · refine hq w3 v gv hv (by omega) (Or.inr ⟨vw3, ?_⟩)
      rw [et, if_pos (kn.mp q1), ew3]
    · refine hq w2 v gv hv (by omega) (Or.inr ⟨vw2, ?_⟩)
      rw [et, if_neg (fun q2 => q1 (kn.mpr q2)), ew2]
  · have et : Sp.toldV (oc v x) = Ob.base (oc v f) (oc v w1) (if Sp.arOf E (oc v f) = 2 then oc v w2 else Ob.nil) := by
      unfold Sp.toldV
      rw [if_pos hcond, if_neg (fun q2 => hif (k3.mpr q2)), ef, ew1]
      by_cases h2' : Sp.arOf E (Ob.lft (oc v x)) = 2
      · rw [if_pos h2', ew2]
      · rw [if_neg h2']
        have hl1 : l.length = 1 := by
          have hle : l.length ≤ 6 := by have := arOf6 hv.2.1 (Ob.lft (oc v x)); omega
          have ar1 : Sp.arOf E (Ob.lft (oc v x)) = 1 := by
            rw [← ef] at h2' ⊢
            have hk := hT.1.1
            have : ∀ i : Nat, 4 ≤ i → i ≤ 16 → f = (i : Int) → Sp.arOf E (oc v f) = 1 := fun i i4 i16 ei => by
              obtain ⟨_, _, kk⟩ : 0 ≤ (i : Int) ∧ (i : Int) < v.1 29 ∧ some (oc v (i : Int)) = Ob.knownC[i]? := ⟨by omega, by omega, hT.2.2.2 i (by omega)⟩
              have := arOf_base (E := E) (i := i) (o := oc v (i : Int)) (by omega) i16 kk.symm
              rw [ei] at h2' ⊢
              rw [this] at h2' ⊢
              rw [if_neg (by omega)] at h2' ⊢
              by_cases c9 : i ≤ 9
              · rw [if_pos c9] at h2'; exact absurd rfl h2'
              · rw [if_neg c9]
            exact this f.toNat (by omega) (by omega) (by omega)
          omega
        have hi2 : Ob.item (oc v x) 2 = Ob.nil := by
          rw [e5, Ob.item_call, List.getD_eq_getElem?_getD, List.getElem?_eq_none (by omega)]
          rfl
        rw [hi2]
        rfl
    rw [et] at hq
    refine pc_baseValue (E := E) hT (fun _ => by omega) ⟨by omega, by omega⟩ vw1 (fun _ => vw2) (fun r w gw w29 hor => ?_)
    have gB : CG f8B f8W v w := gw.mono f8M_B f8R_W
    have w32 : w.1 32 = 0 := by rw [gw.2.2.1 32 (by decide)]; exact hv.2.2.2.1
    refine hq r w (gv.tr gB) (hv.B gB w32) (by omega) ?_
    rcases hor with ⟨q1, _, q3⟩ | q
    · exact Or.inl ⟨q1, q3⟩
    · exact Or.inr q
