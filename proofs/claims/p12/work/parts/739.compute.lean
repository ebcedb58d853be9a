-- deps: 738
/-! the class: other BASE functions by their form; calls of constants -/
theorem call_lft [DecidableEq Ob] {o f : Ob} (hc : o.isCall = true) : o.isCallOf f = decide (Ob.lft o = f) := by
  cases o with
  | op a b => rfl
  | var x => cases hc
section
variable {α : Type} {u0 v0 v : iST} {E : Sp.Env} {B x g row c t T : Int} {R : EStateM.Result Unit Sp.Wk α} {Q : Int → iST → Prop} {K : Ob → Sp.M α} {d : Nat} {ctx : List Ob}
theorem st_other [DecidableEq Ob] {m : Int} (hM : FmJ u0 E B R Q d c x g row v0 T K) (hS : StJ E c x g row ctx v0 v) (hs : v.2.1 51 (17 * c + 3) = 10) (h5 : v.2.1 51 (17 * c + 5) = m) (nm : NdC v E m) (hc : (oc v m).isCall = true) (he : Ob.lft (oc v m) ≠ Ob.equal) (hl : Ob.lft (oc v m) ≠ Ob.less) (hP : PdK B f8Jn f8Jr u0 v R (Sp.bd (Sp.rwRest E (Sp.rw E d ctx) ctx (oc v m) (decide (g = 1))) (fun y => K (Sp.fin (decide (g = 1)) y)))) (ht : t + T + 4 ≤ 24 * (v.1 31 - u0.1 31)) : pv_6_rewritten_20 Q t v := by
  have hC := hM.1
  have T0 := hM.2.2.2.2.2.2
  have hT := hS.ct
  have qc : Ob.cons ≠ Ob.quote := Ob.sym_ne (by decide)
  refine hd_10 hS.2.1.1 hM.2.2.2.2.1 hS.2.2.1 (hC.turn hP hS.2.2.1 (by omega)) hs ?_
  rw [h5]
  refine pc_left hT nm.1 (fun f vf ef => ?_)
  intro _ _ n1 en1 _
  rw [en1, h5]
  refine pc_item hT nm.1 (by decide) (fun a va ea => ?_)
  have ea : oc v a = (oc v m).item 1 := ea
  obtain ⟨n0, e0⟩ := NdC.known hT E 0 (o := Ob.nil) (by decide) (by decide) rfl rfl
  obtain ⟨n1', e1'⟩ := NdC.known hT E 1 (o := Ob.t) (by decide) (by decide) rfl rfl
  have k10 := katC hT 10 (o := Ob.consp) (by decide) (by decide) rfl vf.1 vf.2
  have k11 := katC hT 11 (o := Ob.car) (by decide) (by decide) rfl vf.1 vf.2
  have k12 := katC hT 12 (o := Ob.cdr) (by decide) (by decide) rfl vf.1 vf.2
  have k13 := katC hT 13 (o := Ob.natp) (by decide) (by decide) rfl vf.1 vf.2
  have k14 := katC hT 14 (o := Ob.symbolp) (by decide) (by decide) rfl vf.1 vf.2
  rw [ef] at k10 k11 k12 k13 k14
  -- what it comes to
  have look : Sp.plain (oc v m) = none → pv_6_reduceOther_168 (fun u => ovp (t + 1) (pv_6_rewritten_20 Q (t + 1) u)) c v := by
    intro hn
    unfold pv_6_reduceOther_168
    intro _ _ y1 f1 _
    exact red_look hM hS h5 nm hc hn hP ht y1 f1
  have f0 : Sp.plain (oc v m) = some (.inl Ob.nil) → pv_6_reduceOther_162 (fun u => ovp (t + 1) (pv_6_rewritten_20 Q (t + 1) u)) 0 v := by
    intro hn
    unfold pv_6_reduceOther_162
    rw [← e0] at hn
    exact red_fin hM hS n0 hn hP ht
  have f1 : Sp.plain (oc v m) = some (.inl Ob.t) → pv_6_reduceOther_162 (fun u => ovp (t + 1) (pv_6_rewritten_20 Q (t + 1) u)) 1 v := by
    intro hn
    unfold pv_6_reduceOther_162
    rw [← e1'] at hn
    exact red_fin hM hS n1' hn hP ht
  unfold pv_6_reduceOther
  refine pc_isCallK 5 hT va (by decide) (by decide) (o := Ob.cons) rfl (fun r1 hr1 => ?_)
  -- by name
  have e55 : ∀ num : Int, (num ≠ 0 ↔ Sp.isNumd (oc v a) = true) → pv_6_reduceOther_55 (fun u => ovp (t + 1) (pv_6_rewritten_20 Q (t + 1) u)) c f a r1 num v := by
    intro num hnum
    have numF : num = 0 → Sp.isNumd (oc v a) = false := fun z => bf_of (fun q => hnum.mpr q z)
    -- what asks for a kind
    have kind : (f = 10 ∨ f = 13 ∨ f = 14) → pv_6_reduceOther_80 (fun u => ovp (t + 1) (pv_6_rewritten_20 Q (t + 1) u)) c f a r1 num 1 v := by
      intro hf
      have e140 : (r1 ≠ 0 ∨ num ≠ 0) → pv_6_reduceOther_140 (fun u => ovp (t + 1) (pv_6_rewritten_20 Q (t + 1) u)) f r1 v := by
        intro hor
        unfold pv_6_reduceOther_140 pv_6_reduceOther_154
        rcases hf with z | z | z
        · have hp := plain_consp (k10.mp z)
          rw [← ea] at hp
          refine ⟨fun z1 => ⟨fun _ => f0 ?_, fun q => by omega⟩, fun z1 => ⟨fun q => absurd z q, fun _ => f1 ?_⟩⟩
          · rw [hp, hr1.f z1, hnum.mp (hor.resolve_left (fun q => q z1))]; rfl
          · rw [hp, hr1.t z1]; rfl
        · have hp := plain_natp (k13.mp z)
          rw [← ea] at hp
          refine ⟨fun z1 => ⟨fun q => absurd z q, fun _ => f1 ?_⟩, fun z1 => ⟨fun _ => f0 ?_, fun q => by omega⟩⟩
          · rw [hp, hr1.f z1, hnum.mp (hor.resolve_left (fun q => q z1))]; rfl
          · rw [hp, hr1.t z1]; rfl
        · have hp := plain_symbolp (k14.mp z)
          rw [← ea] at hp
          refine ⟨fun z1 => ⟨fun _ => f0 ?_, fun q => by omega⟩, fun z1 => ⟨fun _ => f0 ?_, fun q => by omega⟩⟩
          · rw [hp, hr1.f z1, hnum.mp (hor.resolve_left (fun q => q z1))]; rfl
          · rw [hp, hr1.t z1]; rfl
      have e125 : pv_6_reduceOther_125 (fun u => ovp (t + 1) (pv_6_rewritten_20 Q (t + 1) u)) c f r1 num 1 v := by
        unfold pv_6_reduceOther_125
        refine ⟨(fun z => by cases z), fun _ => ⟨fun z1 => e140 (Or.inl z1), fun z1 => ⟨fun z2 => look ?_, fun z2 => e140 (Or.inr z2)⟩⟩⟩
        have z1 := Decidable.not_not.mp z1
        rcases hf with z | z | z
        · have hp := plain_consp (k10.mp z)
          rw [← ea, hr1.f z1, numF z2] at hp
          exact hp
        · have hp := plain_natp (k13.mp z)
          rw [← ea, hr1.f z1, numF z2] at hp
          exact hp
        · have hp := plain_symbolp (k14.mp z)
          rw [← ea, hr1.f z1, numF z2] at hp
          exact hp
      unfold pv_6_reduceOther_80
      exact ⟨fun _ => e125, fun _ => ⟨fun z => by omega, fun _ => ⟨fun _ => e125, fun z => by omega⟩⟩⟩
    unfold pv_6_reduceOther_55 pv_6_reduceOther_75
    refine ⟨fun z => kind (Or.inl z), fun z1 => ⟨fun z => kind (Or.inr (Or.inl z)), fun z2 => ⟨fun z3 => ?_, fun z => kind (Or.inr (Or.inr (Decidable.not_not.mp z)))⟩⟩⟩
    have e125 : (¬ (r1 ≠ 0 ∧ (f = 11 ∨ f = 12))) → pv_6_reduceOther_125 (fun u => ovp (t + 1) (pv_6_rewritten_20 Q (t + 1) u)) c f r1 num 0 v := by
      intro hno
      unfold pv_6_reduceOther_125
      refine ⟨fun _ => look ?_, fun z => absurd rfl z⟩
      by_cases c11 : f = 11
      · have hp := plain_car (k11.mp c11)
        have r0 : r1 = 0 := by
          by_cases q : r1 = 0
          · exact q
          · exact absurd ⟨q, Or.inl c11⟩ hno
        rw [← ea, hr1.f r0] at hp
        exact hp
      · by_cases c12 : f = 12
        · have hp := plain_cdr (k12.mp c12)
          have r0 : r1 = 0 := by
            by_cases q : r1 = 0
            · exact q
            · exact absurd ⟨q, Or.inr c12⟩ hno
          rw [← ea, hr1.f r0] at hp
          exact hp
        · exact plain_no ⟨he, hl, fun q => c11 (k11.mpr q), fun q => c12 (k12.mpr q), fun q => z1 (k10.mpr q), fun q => z2 (k13.mpr q), fun q => z3 (k14.mpr q)⟩
    have e99 : r1 ≠ 0 → (f = 11 ∨ f = 12) → pv_6_reduceOther_99 (fun u => ovp (t + 1) (pv_6_rewritten_20 Q (t + 1) u)) f a v := by
      intro hr hf
      have hcons := hr1.t hr
      have har : Sp.arOf E (Ob.lft (oc v m)) = 1 := by
        rcases hf with z | z
        · rw [k11.mp z]; exact arOf_car E
        · rw [k12.mp z]; exact arOf_cdr E
      have hfq : Ob.lft (oc v m) ≠ Ob.quote := by
        rcases hf with z | z
        · rw [k11.mp z]; exact Ob.sym_ne (by decide)
        · rw [k12.mp z]; exact Ob.sym_ne (by decide)
      have na : NdC v E a := nm.one (by rw [call_lft hc]; exact decide_eq_true rfl) hfq har va ea
      unfold pv_6_reduceOther_99 pv_6_reduceOther_116
      refine ⟨fun z => ?_, fun z => ?_⟩
      · have z12 : f = 12 := by omega
        have hp := plain_cdr (k12.mp z12)
        rw [← ea, hcons, if_pos rfl] at hp
        refine pc_it hT na hcons qc (arOf_cons E) (by decide) (by decide) (fun b nb eb => ?_)
        have eb : oc v b = (oc v a).item 2 := eb
        rw [← eb] at hp
        exact red_fin hM hS nb hp hP ht
      · have z11 := Decidable.not_not.mp z
        have hp := plain_car (k11.mp z11)
        rw [← ea, hcons, if_pos rfl] at hp
        refine pc_it hT na hcons qc (arOf_cons E) (by decide) (by decide) (fun b nb eb => ?_)
        have eb : oc v b = (oc v a).item 1 := eb
        rw [← eb] at hp
        exact red_fin hM hS nb hp hP ht
    unfold pv_6_reduceOther_80
    exact ⟨fun z => e125 (fun q => q.1 z), fun z => ⟨fun z4 => e99 z (Or.inl z4), fun z4 => ⟨fun z5 => e125 (fun q => by rcases q.2 with q | q <;> omega), fun z5 => e99 z (Or.inr (Decidable.not_not.mp z5))⟩⟩⟩
  refine pc_isCallK 7 hT va (by decide) (by decide) (o := Ob.plus) rfl (fun r2 hr2 => ⟨fun z => ?_, fun z => ?_⟩)
  · unfold pv_6_reduceOther_50
    exact e55 1 ⟨fun _ => by unfold Sp.isNumd; rw [hr2.t z]; rfl, fun _ => by decide⟩
  · refine pc_isCallK 8 hT va (by decide) (by decide) (o := Ob.minus) rfl (fun r3 hr3 => ⟨fun z2 => ?_, fun z2 => ?_⟩)
    · unfold pv_6_reduceOther_50
      exact e55 1 ⟨fun _ => by unfold Sp.isNumd; rw [hr3.t z2, Bool.or_true]; rfl, fun _ => by decide⟩
    · refine pc_isCallK 15 hT va (by decide) (by decide) (o := Ob.height) rfl (fun r4 hr4 => ⟨fun z3 => ?_, fun z3 => ?_⟩)
      · exact e55 0 ⟨fun q => absurd rfl q, fun q => by unfold Sp.isNumd at q; rw [hr2.f (Decidable.not_not.mp z), hr3.f (Decidable.not_not.mp z2), hr4.f z3] at q; cases q⟩
      · unfold pv_6_reduceOther_50
        exact e55 1 ⟨fun _ => by unfold Sp.isNumd; rw [hr4.t z3, Bool.or_true], fun _ => by decide⟩
theorem sz_constOf [DecidableEq Ob] (o : Ob) : Ob.sz (Ob.constOf o) ≤ 120 := by
  unfold Ob.constOf
  split
  · rename_i h
    cases o with
    | var x => show (1 : Int) ≤ 120; decide
    | op a b =>
      exfalso
      simp only [Bool.or_eq_true, decide_eq_true_eq] at h
      rcases h with (h | h) | h
      · cases h
      · exact absurd h (by unfold Ob.nil Ob.sym; intro q; cases q)
      · exact absurd h (by unfold Ob.t Ob.sym; intro q; cases q)
  · show (if Ob.quote = Ob.quote then (1 : Int) else _) ≤ 120
    rw [if_pos rfl]; decide
theorem NdC.cst [DecidableEq Ob] {k : Int} {w : iST} {o : Ob} (h : VN w k) (e : oc w k = Ob.constOf o) : NdC w E k := ⟨h, by rw [e]; exact wt_constOf _ o, by rw [e]; exact sz_constOf o⟩
/-- the call is computed, where it is one of constants -/
theorem st_compute [DecidableEq Ob] {m : Int} (hM : FmJ u0 E B R Q d c x g row v0 T K) (hS : StJ E c x g row ctx v0 v) (hs : v.2.1 51 (17 * c + 3) = 7) (h5 : v.2.1 51 (17 * c + 5) = m) (nm : NdC v E m) (hc : (oc v m).isCall = true) (hif : Ob.lft (oc v m) ≠ Ob.ifS) (hP : PdK B f8Jn f8Jr u0 v R (Sp.bd (Sp.rwApply E (Sp.rw E d ctx) ctx (oc v m) (decide (g = 1))) (fun y => K (Sp.fin (decide (g = 1)) y)))) (ht : t + T + 5 ≤ 24 * (v.1 31 - u0.1 31)) : pv_6_rewritten_20 Q t v := by
  have hC := hM.1
  have T0 := hM.2.2.2.2.2.2
  have hT := hS.ct
  have hE := hC.env hP
  have hK' := nf_mono hM.2.2.2.1 (decide (g = 1))
  obtain ⟨l, a1, a2, a3, a4, a5, a6, a7⟩ := nm.args hc
  refine hd_7 hS.2.1.1 hM.2.2.2.2.1 hS.2.2.1 (hC.turn hP hS.2.2.1 (by omega)) hs ?_
  unfold pv_6_compute
  intro _ _ n1 en1 _
  rw [en1, h5]
  refine pc_left hT nm.1 (fun f vf ef => ?_)
  have k4 := katC hT 4 (o := Ob.equal) (by decide) (by decide) rfl vf.1 vf.2
  have k9 := katC hT 9 (o := Ob.less) (by decide) (by decide) rfl vf.1 vf.2
  have k3 := katC hT 3 (o := Ob.ifS) (by decide) (by decide) rfl vf.1 vf.2
  rw [ef] at k4 k9 k3
  -- reducing goes on
  have red : ∀ w t', CG f8Jn f8Jr v w → (w.2.1 51 (17 * c + 3) = if f = 4 then 8 else if f = 9 then 9 else 10) → StJ E c x g row ctx v0 w → w.2.1 51 (17 * c + 5) = m → PdK B f8Jn f8Jr u0 w R (Sp.bd (Sp.rwRest E (Sp.rw E d ctx) ctx (oc v m) (decide (g = 1))) (fun y => K (Sp.fin (decide (g = 1)) y))) → t' + T + 4 ≤ 24 * (w.1 31 - u0.1 31) → pv_6_rewritten_20 Q t' w := by
    intro w t' gw h3 hSw w5 hPw ht'
    obtain ⟨nmw, emw⟩ := nm.up hT gw
    rw [← emw] at hPw
    by_cases c4 : f = 4
    · rw [if_pos c4] at h3
      exact st_equal hM hSw h3 w5 nmw (by rw [emw, call_lft hc]; exact decide_eq_true (k4.mp c4)) hPw ht'
    · rw [if_neg c4] at h3
      by_cases c9 : f = 9
      · rw [if_pos c9] at h3
        exact st_less hM hSw h3 w5 nmw (by rw [emw, call_lft hc]; exact decide_eq_true (k9.mp c9)) hPw ht'
      · rw [if_neg c9] at h3
        exact st_other hM hSw h3 w5 nmw (by rw [emw]; exact hc) (by rw [emw]; exact fun q => c4 (k4.mpr q)) (by rw [emw]; exact fun q => c9 (k9.mpr q)) hPw ht'
  have key : ∀ st : Int, (st = if f = 4 then 8 else if f = 9 then 9 else 10) → pv_6_compute_38 (fun u => ovp (t + 1) (pv_6_rewritten_20 Q (t + 1) u)) m f c 3 st v := by
    intro st hst
    unfold pv_6_compute_38
    intro _ _ y1 e1
    obtain ⟨k1, m1, c1, q1r, s1, q1⟩ := fr_set hT e1 (by decide)
    have hS1 := hS.set e1 (by decide)
    have hP1 := hP.same k1.1 (fun k _ _ => by rw [m1])
    have hT1 := k1.1.1
    obtain ⟨nm1, em1⟩ := nm.up hT k1.1
    have y5 : y1.2.1 51 (17 * c + 5) = m := by rw [s1 _ (by omega)]; exact h5
    have vf1 : VN y1 f := vf.up k1.1
    have ef1 : oc y1 f = Ob.lft (oc v m) := by rw [k1.1.oc hT vf.1 vf.2]; exact ef
    refine pc_isOfConstants hT1 nm1.1 (fun r hr => ⟨fun z => ?_, fun z _ => ?_⟩)
    rotate_left
    · have hr := hr.f (Decidable.not_not.mp z)
      rw [em1] at hr
      unfold Sp.rwApply at hP1
      rw [if_neg (by rw [hr]; decide)] at hP1
      exact red y1 (t + 1) k1.1 (by rw [q1]; exact hst) hS1 y5 hP1 (by rw [m1]; omega)
    have hall := hr.t z
    rw [em1] at hall
    unfold Sp.rwApply at hP1
    rw [if_pos hall] at hP1
    -- a value came
    have val : ∀ w r, CG f8Jn f8Jr y1 w → ((∀ j, j < 17 * (c + 1) → w.2.1 51 j = y1.2.1 51 j) ∧ w.1 26 = y1.1 26 ∧ w.2.1 52 = y1.2.1 52) → w.1 23 = c + 1 → w.1 32 = 0 → VN w r → w.1 29 + 2 ≤ 160000 → w.1 31 ≥ v.1 31 → (∀ z q, CG f8M f8R w z → VN z q → oc z q = Ob.constOf (oc w r) → z.1 29 ≤ w.1 29 + 2 → PdK B f8Jn f8Jr u0 z R (K (Sp.fin (decide (g = 1)) (oc z q)))) → pv_6_compute_119 (fun u => ovp (t + 1) (pv_6_rewritten_20 Q (t + 1) u)) r w := by
      intro w r gw w51 w23 w32 vr w29 w31 hz
      unfold pv_6_compute_119
      refine ⟨fun q => by have := vr.1; omega, fun _ => ?_⟩
      refine pc_constantOf gw.1 vr (by omega) (fun q z gz vq eq z29 => ?_)
      have hPz := hz z q gz vq eq z29
      have nq : NdC z E q := NdC.cst vq eq
      have kz : RjK (c + 1) y1 z := ⟨gw.tr (gz.mono f8M_J f8R_J), fun j hj => by rw [gz.2.2.2 51 (by decide)]; exact w51.1 j hj, NtK.of (by rw [gz.2.2.1 26 (by decide)]; exact w51.2.1) (by rw [gz.2.2.1 31 (by decide), m1]; exact w31) (by rw [gz.2.2.2 52 (by decide)]; exact w51.2.2)⟩
      exact fr_fin (t := t + 1) hM (hS1.1.tr kz (by omega)) (hS1.2.1.keep (by rw [gz.2.2.1 23 (by decide)]; exact w23) (fun j hj _ => kz.2.1 j (by omega)) kz.2.2) nq.d hPz (by rw [gz.2.2.1 31 (by decide)]; omega) (fun w h _ => h)
    have y32 : y1.1 32 = 0 := hS1.2.2.1
    obtain ⟨s, hl, eR⟩ := hP1.live y32
    refine ⟨fun z16 => ?_, fun z16 => ?_⟩
    · -- a function that was defined
      have har : Sp.arOf E (oc y1 f) = (l.length : Int) := by rw [ef1]; exact a3
      have hout := arOf_out (E := E) hT1 vf1 (by omega)
      rw [har] at hout
      have hdf : ∃ D, E.dfn (Ob.lft (oc v m)) = some D := by
        rw [ef1] at hout
        cases q : E.dfn (Ob.lft (oc v m)) with
        | some D => exact ⟨D, rfl⟩
        | none => rw [q] at hout; have hout : (l.length : Int) = -1 := hout; omega
      obtain ⟨D, hD⟩ := hdf
      rw [hD] at eR
      have eR : R = Sp.bd (fun s => match Sp.ev E 300 (fun x => x) (oc v m) (s.1, 100, s.2) with | .ok v s' => .ok (Ob.constOf v) (s'.1, s'.2.2 + 2) | .error w s' => if w = 1 then .error () (s'.1, s'.2.2) else Sp.rwRest E (Sp.rw E d ctx) ctx (oc v m) (decide (g = 1)) (s'.1, s'.2.2)) (fun y => K (Sp.fin (decide (g = 1)) y)) s := eR
      have h31 := hl.2.1
      unfold StS StC at h31
      have h30 : y1.1 30 ≤ 1000 := by rw [hP1.1.2.2.1 30 (by decide)]; exact hC.2.2.2.1.2
      have fit := hC.2.2.1
      -- how it came out
      have okR : ∀ x s', Sp.ev E 300 (fun x => x) (oc v m) (s.1, 100, s.2) = .ok x s' → R = K (Sp.fin (decide (g = 1)) (Ob.constOf x)) (s'.1, s'.2.2 + 2) := by
        intro x s' h
        rw [eR]
        unfold Sp.bd
        simp only [h]
      have e1R : ∀ s', Sp.ev E 300 (fun x => x) (oc v m) (s.1, 100, s.2) = .error 1 s' → R = .error () (s'.1, s'.2.2) := by
        intro s' h
        rw [eR]
        unfold Sp.bd
        simp only [h, ↓reduceIte]
      have e2R : ∀ e s', e ≠ 1 → Sp.ev E 300 (fun x => x) (oc v m) (s.1, 100, s.2) = .error e s' → R = Sp.bd (Sp.rwRest E (Sp.rw E d ctx) ctx (oc v m) (decide (g = 1))) (fun y => K (Sp.fin (decide (g = 1)) y)) (s'.1, s'.2.2) := by
        intro e s' he h
        rw [eR]
        unfold Sp.bd
        simp only [h, if_neg he]
      have hsto : ∀ x s', Sp.ev E 300 (fun x => x) (oc v m) (s.1, 100, s.2) = .ok x s' → s'.1 ≤ s.1 := fun x s' h => by
        have := (ev_mon (E := E) 300 (fun x => x) (oc v m) (s.1, 100, s.2)).2
        rw [h] at this; exact this
      have hste : ∀ e s', Sp.ev E 300 (fun x => x) (oc v m) (s.1, 100, s.2) = .error e s' → s'.1 ≤ s.1 := fun e s' h => by
        have := (ev_mon (E := E) 300 (fun x => x) (oc v m) (s.1, 100, s.2)).2
        rw [h] at this; exact this
      have fitE : FitE B (Sp.ev E 300 (fun x => x) (oc y1 m) (s.1, 100, s.2)) := by
        rw [em1]
        unfold FitE
        cases q : Sp.ev E 300 (fun x => x) (oc v m) (s.1, 100, s.2) with
        | ok x s' =>
          have h1 := okR x s' q
          rw [h1] at fit
          have h2 := hM.2.2.2.1 (Sp.fin (decide (g = 1)) (Ob.constOf x)) (s'.1, s'.2.2 + 2)
          unfold Fit at fit
          have h2 : s'.2.2 + 2 ≤ cntR (K (Sp.fin (decide (g = 1)) (Ob.constOf x)) (s'.1, s'.2.2 + 2)) := h2
          show B + (s'.2.2 : Int) ≤ 160000
          omega
        | error e s' =>
          show B + (s'.2.2 : Int) ≤ 160000
          by_cases c1 : e = 1
          · rw [c1] at q
            rw [e1R s' q] at fit
            exact fit
          · rw [e2R e s' c1 q] at fit
            have h2 := (Mono.bd (rwRest_mono (E := E) (r := Sp.rw E d ctx) (ctx := ctx) (u := oc v m) (t := decide (g = 1)) (fun o t => rw_mono _ _ _ _)) hK') (s'.1, s'.2.2)
            unfold Fit at fit
            have h2 : s'.2.2 ≤ cntR (Sp.bd (Sp.rwRest E (Sp.rw E d ctx) ctx (oc v m) (decide (g = 1))) (fun y => K (Sp.fin (decide (g = 1)) y)) (s'.1, s'.2.2)) := h2
            omega
      refine pc_evaluated (s := (s.1, 100, s.2)) (env := fun x => x) hT1 (hE.mono hT k1.1).1 hE.2.1 (arOf6 hE.1) nm1.1 nm1.2.1 (fun y hy => ?_) y32 rfl h31.2 hl.2.2 (by show 16 * (s.1 : Int) + 20 ≤ 900000; omega) fitE (fun r w s' hok gw vr w9 w32 w31 w29 => ?_) ?_
      · rw [em1, a5] at hy
        exact no_vars a6 (by rw [← a2]; exact hall) y hy
      · rw [em1] at hok
        have e30 : w.1 30 = y1.1 30 := gw.2.2.1 30 (by decide)
        have hle := hsto _ _ hok
        have hR2 := okR _ _ hok
        have w30 : 0 ≤ w.1 31 ∧ w.1 31 ≥ v.1 31 := by
          have : y1.1 31 = v.1 31 := by rw [m1]
          have h31' := h31.2
          have h31'' := h31.1
          omega
        have hroom : w.1 29 + 2 ≤ 160000 := by
          have fit' := fit
          rw [hR2] at fit'
          have h2 := hM.2.2.2.1 (Sp.fin (decide (g = 1)) (Ob.constOf (oc w r))) (s'.1, s'.2.2 + 2)
          unfold Fit at fit'
          have h2 : s'.2.2 + 2 ≤ cntR (K (Sp.fin (decide (g = 1)) (Ob.constOf (oc w r))) (s'.1, s'.2.2 + 2)) := h2
          omega
        refine val w r (gw.mono f8En_J f8Er_J) ⟨fun j _ => by rw [gw.2.2.2 51 (by decide)], gw.2.2.1 26 (by decide), gw.2.2.2 52 (by decide)⟩ (by rw [gw.2.2.1 23 (by decide)]; exact hS1.2.1.1) w32 vr hroom w30.2 (fun z q gz vq eq z29 => ?_)
        refine ⟨(hP1.1.tr (gw.mono f8En_J f8Er_J)).tr (gz.mono f8M_J f8R_J), Or.inl ⟨(s'.1, s'.2.2 + 2), ⟨by rw [gz.2.2.1 32 (by decide)]; exact w32, ?_, ?_⟩, by rw [eq]; exact hR2⟩⟩
        · unfold StS StC
          rw [gz.2.2.1 31 (by decide), gz.2.2.1 30 (by decide)]
          exact ⟨w30.1, w31⟩
        · show z.1 29 ≤ B + ((s'.2.2 + 2 : Nat) : Int)
          omega
      · intro w s' e hee gw w9 w9' w31 w29 hne hey
        rw [em1] at hee
        have e30 : w.1 30 = y1.1 30 := gw.2.2.1 30 (by decide)
        have hle := hste _ _ hee
        have w30 : 0 ≤ w.1 31 ∧ w.1 31 ≥ v.1 31 := by
          have : y1.1 31 = v.1 31 := by rw [m1]
          have h31' := h31.2
          have h31'' := h31.1
          omega
        unfold pv_6_compute_119
        refine ⟨fun _ _ => ?_, fun q => absurd rfl q⟩
        by_cases c1 : e = 1
        · rw [c1] at hee
          exact rj_dead hC (m := Sp.fail) ⟨hP1.1.tr (gw.mono f8En_J f8Er_J), Or.inr ⟨(s'.1, s'.2.2), ⟨hey c1, w30.1, w31⟩, e1R s' hee⟩⟩ (hey c1)
        · have w32 := hne c1
          have kw : RjK (c + 1) y1 w := RjK.of31 gw f8En_J f8Er_J (by decide) (by rw [m1]; exact w30.2)
          exact red w (t + 1) (k1.1.tr kw.1) (by rw [kw.2.1 _ (by omega), q1]; exact hst) (hS1.keep kw (by rw [gw.2.2.1 23 (by decide)]; exact hS1.2.1.1) w32) (by rw [kw.2.1 _ (by omega)]; exact y5) ⟨hP1.1.tr (gw.mono f8En_J f8Er_J), Or.inl ⟨(s'.1, s'.2.2), ⟨w32, ⟨w30.1, w31⟩, w29⟩, e2R e s' c1 hee⟩⟩ (by omega)
    · -- a BASE function
      have hdn : E.dfn (Ob.lft (oc v m)) = none := by rw [← ef1]; exact dfn_base hT1 (hE.mono hT k1.1).1 vf1 (by omega)
      rw [hdn] at eR
      have f3 : 4 ≤ f := by
        by_cases q : 3 ≤ f ∧ f ≤ 16
        · have : f ≠ 3 := fun z => hif (k3.mp z)
          omega
        · have hout := arOf_out (E := E) hT1 vf1 q
          rw [ef1, hdn, a3] at hout
          have hout : (l.length : Int) = -1 := hout
          omega
      have kf := hT1.2.2.2 f.toNat (by omega)
      rw [show ((f.toNat : Nat) : Int) = f by omega] at kf
      have hab := arOf_base (E := E) (i := f.toNat) (by omega) (by omega) kf.symm
      refine pc_item hT1 nm1.1 (by decide) (fun b1 vb1 eb1 => pc_valueOf hT1 vb1 (fun b2 vb2 eb2 => pc_item hT1 nm1.1 (by decide) (fun b3 vb3 eb3 => pc_valueOf hT1 vb3 (fun b4 vb4 eb4 => ?_))))
      have eb2 : oc y1 b2 = Ob.valOf (Ob.item (oc v m) 1) := by rw [eb2, eb1, em1]; rfl
      have eb4 : oc y1 b4 = Ob.valOf (Ob.item (oc v m) 2) := by rw [eb4, eb3, em1]; rfl
      have hsec : (if Sp.arOf E (oc y1 f) = 2 then oc y1 b4 else Ob.nil) = Ob.valOf (Ob.item (oc v m) 2) := by
        by_cases q : Sp.arOf E (oc y1 f) = 2
        · rw [if_pos q]; exact eb4
        · rw [if_neg q]
          have hlen : l.length = 1 := by
            have : Sp.arOf E (oc y1 f) = (l.length : Int) := by rw [ef1]; exact a3
            rw [hab] at this q
            split at this <;> rename_i h1
            · omega
            · rw [if_neg h1] at q
              split at this <;> rename_i h2
              · rw [if_pos h2] at q; exact absurd rfl q
              · omega
          have : Ob.item (oc v m) 2 = Ob.nil := by
            rw [a5, show (2 : Nat) = 1 + 1 from rfl, Ob.item_call]
            rw [List.getD_eq_getElem?_getD, List.getElem?_eq_none (by omega)]
            rfl
          rw [this]; rfl
      have fit := hC.2.2.1
      cases hb : Ob.base (Ob.lft (oc v m)) (Ob.valOf (Ob.item (oc v m) 1)) (Ob.valOf (Ob.item (oc v m) 2)) with
      | none =>
        rw [hb] at eR
        have eR : R = Sp.bd (Sp.rwRest E (Sp.rw E d ctx) ctx (oc v m) (decide (g = 1))) (fun y => K (Sp.fin (decide (g = 1)) y)) s := eR
        refine pc_baseValue (E := E) hT1 (fun q => absurd (by rw [hsec, ef1, eb2]; exact hb) q) ⟨f3, by omega⟩ vb2 (fun _ => vb4) (fun r w gw w29 hrw => ?_)
        rw [hsec, ef1, eb2, hb] at hrw
        rcases hrw with ⟨q1', q2', _⟩ | ⟨_, q2'⟩
        · rw [q1']
          unfold pv_6_compute_119
          refine ⟨fun _ _ => ?_, fun q => absurd rfl q⟩
          have w32 : w.1 32 = 0 := by rw [gw.2.2.1 32 (by decide)]; exact y32
          have kw : RjK (c + 1) y1 w := RjK.of gw f8M_J f8R_J (by decide)
          exact red w (t + 1) (k1.1.tr kw.1) (by rw [kw.2.1 _ (by omega), q1]; exact hst) (hS1.gen gw f8M_J f8R_J (by decide) (by decide) w32) (by rw [kw.2.1 _ (by omega)]; exact y5) ⟨hP1.1.tr kw.1, Or.inl ⟨s, ⟨w32, hl.2.1.cg gw (by decide) (by decide) rfl, by have := hl.2.2; omega⟩, eR⟩⟩ (by rw [gw.2.2.1 31 (by decide), m1]; omega)
        · cases q2'
      | some b =>
        rw [hb] at eR
        have eR : R = K (Sp.fin (decide (g = 1)) (Ob.constOf b)) (s.1, s.2 + 3) := eR
        have hroom : y1.1 29 + 3 ≤ 160000 := by
          rw [eR] at fit
          have h2 := hM.2.2.2.1 (Sp.fin (decide (g = 1)) (Ob.constOf b)) (s.1, s.2 + 3)
          unfold Fit at fit
          have h2 : s.2 + 3 ≤ cntR (K (Sp.fin (decide (g = 1)) (Ob.constOf b)) (s.1, s.2 + 3)) := h2
          have h3 := hl.2.2
          omega
        refine pc_baseValue (E := E) hT1 (fun _ => by omega) ⟨f3, by omega⟩ vb2 (fun _ => vb4) (fun r w gw w29 hrw => ?_)
        rw [hsec, ef1, eb2, hb] at hrw
        rcases hrw with ⟨_, _, q2'⟩ | ⟨vr, q2'⟩
        · cases q2'
        have eb : b = oc w r := Option.some.inj q2'
        have w32 : w.1 32 = 0 := by rw [gw.2.2.1 32 (by decide)]; exact y32
        refine val w r (gw.mono f8M_J f8R_J) ⟨fun j _ => by rw [gw.2.2.2 51 (by decide)], gw.2.2.1 26 (by decide), gw.2.2.2 52 (by decide)⟩ (by rw [gw.2.2.1 23 (by decide)]; exact hS1.2.1.1) w32 vr (by omega) (by rw [gw.2.2.1 31 (by decide), m1]; omega) (fun z q gz vq eq z29 => ?_)
        have gyz : CG f8M f8R y1 z := gw.tr gz
        refine ⟨hP1.1.tr (gyz.mono f8M_J f8R_J), Or.inl ⟨(s.1, s.2 + 3), ⟨by rw [gz.2.2.1 32 (by decide)]; exact w32, hl.2.1.cg gyz (by decide) (by decide) rfl, ?_⟩, by rw [eq, ← eb]; exact eR⟩⟩
        show z.1 29 ≤ B + ((s.2 + 3 : Nat) : Int)
        have h3 := hl.2.2
        omega
  refine ⟨fun z => ⟨fun z2 => key 10 (by rw [if_neg z, if_neg z2]), fun z2 => key 9 (by rw [if_neg z, if_pos (Decidable.not_not.mp z2)])⟩, fun z => key 8 (by rw [if_pos (Decidable.not_not.mp z)])⟩
end
