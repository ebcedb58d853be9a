-- deps: 734
/-! the class: definitions unfolded -/
theorem lkD_w [DecidableEq Ob] {P : Ob → Prop} {x : Ob} : ∀ l : List (Ob × Ob), (∀ p, p ∈ l → P p.2) → P x → P (Ob.lkD l x)
  | [], _, h => h
  | (a, b) :: l, hl, h => by
    by_cases c : a = x
    · have e : Ob.lkD ((a, b) :: l) x = b := by unfold Ob.lkD; rw [lk_cons, if_pos c]; rfl
      rw [e]; exact hl _ List.mem_cons_self
    · have e : Ob.lkD ((a, b) :: l) x = Ob.lkD l x := by unfold Ob.lkD; rw [lk_cons, if_neg c]
      rw [e]; exact lkD_w l (fun p hp => hl p (List.mem_cons_of_mem _ hp)) h
theorem var_w [DecidableEq Ob] {ar : Ob → Int} {x : Ob} (h : x.isVar = true) : Ob.wt ar x ∧ x.sz ≤ 120 := by
  have hc := (var_nc h).2
  cases x with
  | var z => exact ⟨trivial, by show (1 : Int) ≤ 120; decide⟩
  | op a b => exact absurd h (by unfold Ob.isVar Ob.isSym; simp)
theorem NdC.args [DecidableEq Ob] {u : iST} {E : Sp.Env} {k : Int} (h : NdC u E k) (hc : (oc u k).isCall = true) : ∃ l, Ob.rgt (oc u k) = Ob.ofList l ∧ Ob.toList (Ob.rgt (oc u k)) = l ∧ Sp.arOf E (Ob.lft (oc u k)) = (l.length : Int) ∧ (∀ x, x ∈ l → Ob.wt (Sp.arOf E) x ∧ x.sz ≤ 120) ∧ oc u k = .pr (Ob.lft (oc u k)) (Ob.ofList l) ∧ Ob.lft (oc u k) ≠ Ob.quote ∧ (Ob.lft (oc u k)).isSym = true := by
  obtain ⟨g, l, e, h1, h2, h3, h4⟩ := Ob.wt_call h.2.1 hc
  have el : Ob.lft (oc u k) = g := by rw [e]; rfl
  have er : Ob.rgt (oc u k) = Ob.ofList l := by rw [e]; rfl
  refine ⟨l, er, by rw [er, Ob.toList_ofList], by rw [el]; exact h3, fun x hx => ⟨h4 x hx, ?_⟩, by rw [el]; exact e, by rw [el]; exact h1, by rw [el]; exact h2⟩
  have hs := h.2.2
  rw [e] at hs
  have es : Ob.sz (.pr g (Ob.ofList l)) = 1 + Ob.szM true (Ob.ofList l) := if_neg h1
  rw [es] at hs
  have := szM_in hx
  omega
/-- the parameters of a definition are bound to a call's terms -/
theorem pc_bound [DecidableEq Ob] {m r dd : Int} {Q : iST → Prop} {v : iST} {E : Sp.Env} (hT : CT v) (hE : EnvC v E) (nm : NdC v E m) (hc : (oc v m).isCall = true) (d0 : 0 ≤ dd) (d1 : dd < v.1 0) (hd : E.dfn (Ob.lft (oc v m)) = some (dfnC v dd)) (vr : VN v r) (er : oc v r = Ob.rgt (oc v m))
    (hq : ∀ w, CG f8b f8m v w → BnOk w → bdL w = (dfnC v dd).params.zip (Ob.toList (Ob.rgt (oc v m))) → (∀ x, Ob.isVar x = true → Ob.wt (Sp.arOf E) (Ob.lkD (bdL w) x) ∧ (Ob.lkD (bdL w) x).sz ≤ 120) → Q w) : pv_10_bindRow (v.2.1 1 dd) r Q v := by
  obtain ⟨l, e1, e2, e3, e4, e5, e6, e7⟩ := nm.args hc
  obtain ⟨p1, p2, ⟨p3, p4, p5, p6⟩, p7, p8⟩ := hE.1.2.2 dd d0 d1
  have hnm := (dfn_mem hd).2
  have hnm : oc v (v.2.1 0 dd) = Ob.lft (oc v m) := hnm
  have nb := (isName_base p2).1
  rw [hnm] at nb
  have har := (arOf_ne (E := E) (f := Ob.lft (oc v m)) (by omega) nb).2 _ hd
  have hpl : (dfnC v dd).params = Ob.toList (oc v (v.2.1 1 dd)) := rfl
  have i1 : itN (oc v (v.2.1 1 dd)) = (oc v (v.2.1 1 dd)).len := itN_len (by omega)
  have hlen : (oc v (v.2.1 1 dd)).len = (l.length : Int) := by
    rw [Ob.len_toList (by omega)]
    rw [hpl] at har
    omega
  have i2 : itN (oc v r) = (l.length : Int) := by
    have : (oc v r).len = (l.length : Int) := by rw [er, e1, Ob.len_ofList]
    rw [itN_len (by omega), this]
  refine pc_bindRow hT p3 vr (by rw [i2, i1, hlen]) (by rw [i1]; omega) (fun w gw bw ew _ => hq w gw bw (by rw [ew, er]; rfl) (fun x hx => ?_))
  rw [ew, er, e2]
  exact lkD_w (P := fun y => Ob.wt (Sp.arOf E) y ∧ y.sz ≤ 120) _ (fun p hp => e4 p.2 (List.of_mem_zip hp).2) (var_w hx)
theorem fillU_congr [DecidableEq Ob] {xs : List Ob} {s s' : Ob → Ob} {o : Ob} (h : ∀ x, vr false o x → s x = s' x) : Sp.fillU xs s o = Sp.fillU xs s' o := by
  unfold Sp.fillU
  rw [sb_congr false o h]
theorem fill_congr [DecidableEq Ob] {s s' : Ob → Ob} {o : Ob} (h : ∀ x, vr false o x → s x = s' x) : Sp.fill s o = Sp.fill s' o := by
  unfold Sp.fill Sp.fillU
  rw [sb_congr false o h]
section
variable {α : Type} {u0 v0 v : iST} {E : Sp.Env} {B x g row c t T : Int} {R : EStateM.Result Unit Sp.Wk α} {Q : Int → iST → Prop} {K : Ob → Sp.M α} {d : Nat} {ctx : List Ob}
theorem pc_fillJ [DecidableEq Ob] {k : Int} {s : Ob → Ob} {K' : Ob → Sp.M α} {Q' : Int → iST → Prop} (hP : PdK B f8Jn f8Jr u0 v R (Sp.bd (Sp.fill s (oc v k)) K')) (fit : Fit B R) (hK : ∀ a, Mono (K' a)) (hE : EnvC v E) (nk : NdC v E k) (hB : BnOk v) (hs : ∀ x, vr false (oc v k) x → s x = Ob.lkD (bdL v) x) (hlw : ∀ x, Ob.isVar x = true → Ob.wt (Sp.arOf E) (Ob.lkD (bdL v) x) ∧ (Ob.lkD (bdL v) x).sz ≤ 120)
    (hq : ∀ t w, CG f8B f8W v w → (v.1 32 ≠ 0 → w.1 32 ≠ 0) → NdD w E t → PdK B f8Jn f8Jr u0 w R (K' (oc w t)) → (t = -1 → w.1 32 ≠ 0) → Q' t w) : pv_10_rebuilt k 1 Q' v := by
  rw [fill_congr hs] at hP
  exact pc_fill hP f8B_J f8W_J fit hK (arOf6 hE.1) nk hB rfl hlw (sb_wt false _ nk.2.1 (fun x hx => (hlw x hx.2).1)).1 hq
theorem dfn_nd [DecidableEq Ob] {dd : Int} (hE : EnvC v E) (d0 : 0 ≤ dd) (d1 : dd < v.1 0) {f : Ob} (hd : E.dfn f = some (dfnC v dd)) : NdC v E (v.2.1 3 dd) := ⟨(hE.1.2.2 dd d0 d1).2.2.2.1, (hE.2.1 _ (dfn_mem hd).1).1, hE.2.2.1 _ (dfn_mem hd).1⟩
theorem ifq' [DecidableEq Ob] : Ob.ifS ≠ Ob.quote := Ob.sym_ne (by decide)
/-- the test of a definition came out -/
theorem st_choose [DecidableEq Ob] {m a : Int} {D : Sp.Dfn} (hM : FmJ u0 E B R Q d c x g row v0 T K) (hS : StJ E c x g row ctx v0 v) (hs : v.2.1 51 (17 * c + 3) = 17) (h5 : v.2.1 51 (17 * c + 5) = m) (nm : NdC v E m) (hc : (oc v m).isCall = true) (h24 : v.1 24 = a) (na : NdC v E a) (hdf : E.dfn (Ob.lft (oc v m)) = some D) (hif : D.body.isCallOf Ob.ifS = true) (hP : PdK B f8Jn f8Jr u0 v R (Sp.bd (if Ob.isConst (oc v a) then Sp.bd (Sp.fill (Ob.lkD (D.params.zip (Ob.toList (Ob.rgt (oc v m))))) (Ob.item D.body (if oc v a = Ob.nil then 3 else 2))) (fun x => Sp.rw E d ctx x (decide (g = 1))) else Sp.ret (oc v m)) (fun y => K (Sp.fin (decide (g = 1)) y)))) (ht : t + T + 1 ≤ 24 * (v.1 31 - u0.1 31)) : pv_6_rewritten_20 Q t v := by
  have hC := hM.1
  have T0 := hM.2.2.2.2.2.2
  have hT := hS.ct
  have hE := hC.env hP
  refine hd_17 hS.2.1.1 hM.2.2.2.2.1 hS.2.2.1 (hC.turn hP hS.2.2.1 (by omega)) hs ?_
  unfold pv_6_chooseBranch
  intro _ _ n1 en1 _
  rw [en1, h5]
  refine pc_left hT nm.1 (fun f vf ef => ?_)
  refine pc_functionOf hT hE.1 vf (fun z => ?_) (fun dd d0 d1 d2 d3 => ?_)
  · rw [ef, hdf] at z; cases z
  refine ⟨fun z => by omega, fun _ => ?_⟩
  have eD : D = dfnC v dd := by rw [ef, hdf] at d3; exact Option.some.inj d3
  rw [eD] at hdf hif hP
  intro n6 en6 _
  rw [en6, h24]
  have n0 := oc_nil hT na.1
  refine pc_isConstant hT na.1 (fun r1 hr1 => ⟨fun z => ?_, fun z => ?_⟩)
  rotate_left
  · rw [if_neg (by rw [hr1.f (Decidable.not_not.mp z)]; decide)] at hP
    unfold pv_6_chooseBranch_37
    intro _ _ n4 en4 _
    rw [en4, h5]
    exact fr_fin (t := t + 1) hM hS.1 hS.2.1 nm.d hP.retd (by omega) (fun w h _ => h)
  rw [if_pos (hr1.t z), bd_assoc] at hP
  intro _ _ n8 en8 _ _ _ n9 en9 _
  rw [en8, en9, h5]
  refine pc_right hT nm.1 (fun rr vrr err => ?_)
  refine pc_bound hT hE nm hc d0 d1 hdf vrr err (fun w gw bw ew lw => ?_)
  intro _ _ n12 en12 _ n13 en13 _
  have w24 : w.1 24 = a := by rw [gw.2.2.1 24 (by decide)]; exact h24
  have w3 : w.2.1 3 = v.2.1 3 := gw.2.2.2 3 (by decide)
  have w32 : w.1 32 = 0 := by rw [gw.2.2.1 32 (by decide)]; exact hS.2.2.1
  have hSw := hS.gen gw f8b_J f8m_J (by decide) (by decide) w32
  have hPw := hP.same (gw.mono f8b_J f8m_J) (fun k h1 h2 => gw.2.2.1 k (by unfold f8b; exact decide_eq_false (by omega)))
  obtain ⟨nb, eb⟩ := (dfn_nd hE d0 d1 hdf).up hT gw
  have eb : oc w (v.2.1 3 dd) = (dfnC v dd).body := eb
  have w31 : w.1 31 = v.1 31 := gw.2.2.1 31 (by decide)
  rw [en12, en13, w24, w3]
  -- the one that is taken
  have go : ∀ i : Int, 1 ≤ i → i ≤ 3 → (if oc v a = Ob.nil then 3 else 2) = i.toNat → pv_6_chooseBranch_102 (fun u => ovp (t + 1) (pv_6_rewritten_20 Q (t + 1) u)) c (v.2.1 3 dd) i w := by
    intro i i1 i2 ei
    unfold pv_6_chooseBranch_102
    refine pc_it gw.1 nb (by rw [eb]; exact hif) ifq' (arOf_ifS E) i1 i2 (fun b nbb ebb => ?_)
    rw [eb, ← ei] at ebb
    rw [← ebb, ← ew] at hPw
    refine pc_fillJ hPw hC.2.2.1 (fun a => Mono.bd (rw_mono _ _ _ _) (nf_mono hM.2.2.2.1 _)) (hE.mono hT (gw.mono f8b_J f8m_J)) nbb bw (fun _ _ => rfl) lw (fun o z gz zd nt hPz _ => ?_)
    have kz : RjK (c + 1) w z := RjK.of gz f8B_J f8W_J (by decide)
    have z31 : z.1 31 = v.1 31 := by rw [gz.2.2.1 31 (by decide), w31]
    exact fr_instead (t := t + 1) hM (hSw.1.tr kz (by omega)) (hSw.2.1.keep (by rw [gz.2.2.1 23 (by decide)]; exact hSw.2.1.1) (fun j hj _ => kz.2.1 j (by omega)) kz.2.2) hS.2.2.2.2.2 (hSw.2.2.2.2.1.up gw.1 gz) nt hPz (by rw [z31]; omega) (fun w h _ => h)
  exact ⟨fun z0 => go 3 (by decide) (by decide) (if_pos (n0.mp z0)), fun z0 => go 2 (by decide) (by decide) (if_neg (fun q => z0 (n0.mpr q)))⟩
/-- a call is unfolded -/
theorem st_unfold [DecidableEq Ob] {m : Int} (hM : FmJ u0 E B R Q d c x g row v0 T K) (hS : StJ E c x g row ctx v0 v) (hs : v.2.1 51 (17 * c + 3) = 16) (h5 : v.2.1 51 (17 * c + 5) = m) (nm : NdC v E m) (hc : (oc v m).isCall = true) (hP : PdK B f8Jn f8Jr u0 v R (Sp.bd (Sp.unf E (Sp.rw E d ctx) (oc v m) (decide (g = 1))) (fun y => K (Sp.fin (decide (g = 1)) y)))) (ht : t + T + 1 ≤ 24 * (v.1 31 - u0.1 31)) : pv_6_rewritten_20 Q t v := by
  have hC := hM.1
  have T0 := hM.2.2.2.2.2.2
  have hT := hS.ct
  have hE := hC.env hP
  refine hd_16 hS.2.1.1 hM.2.2.2.2.1 hS.2.2.1 (hC.turn hP hS.2.2.1 (by omega)) hs ?_
  unfold pv_6_unfold
  intro _ _ n1 en1 _
  rw [en1, h5]
  refine pc_left hT nm.1 (fun f vf ef => ?_)
  refine pc_functionOf hT hE.1 vf (fun z => ?_) (fun dd d0 d1 d2 d3 => ?_)
  · refine ⟨fun q => absurd rfl q, fun _ => ?_⟩
    intro _ _ n19 en19 _
    rw [en19, h5]
    rw [ef] at z
    unfold Sp.unf at hP
    rw [z] at hP
    exact fr_fin (t := t + 1) hM hS.1 hS.2.1 nm.d hP.retd (by omega) (fun w h _ => h)
  rw [ef] at d3
  refine ⟨fun _ => ?_, fun z => by omega⟩
  have hU : Sp.unf E (Sp.rw E d ctx) (oc v m) (decide (g = 1)) = if (dfnC v dd).meas.isNone then Sp.bd (Sp.fill (Ob.lkD ((dfnC v dd).params.zip (Ob.toList (Ob.rgt (oc v m))))) (dfnC v dd).body) (fun x => Sp.rw E d ctx x (decide (g = 1)))
          else if Ob.isCallOf (dfnC v dd).body Ob.ifS then Sp.bd (Sp.fill (Ob.lkD ((dfnC v dd).params.zip (Ob.toList (Ob.rgt (oc v m))))) (Ob.item (dfnC v dd).body 1)) (fun q => Sp.bd (Sp.rw E d ctx q true) (fun a => if Ob.isConst a then Sp.bd (Sp.fill (Ob.lkD ((dfnC v dd).params.zip (Ob.toList (Ob.rgt (oc v m))))) (Ob.item (dfnC v dd).body (if a = Ob.nil then 3 else 2))) (fun x => Sp.rw E d ctx x (decide (g = 1))) else Sp.ret (oc v m))) else Sp.ret (oc v m) := by
    unfold Sp.unf
    rw [d3]
  rw [hU] at hP
  have hme : (dfnC v dd).meas.isNone = decide (v.2.1 4 dd = -1) := by
    show (if v.2.1 4 dd = -1 then none else some (oc v (v.2.1 4 dd))).isNone = _
    by_cases z : v.2.1 4 dd = -1
    · rw [if_pos z, decide_eq_true z]; rfl
    · rw [if_neg z, decide_eq_false z]; rfl
  have nb := dfn_nd hE d0 d1 d3
  have eb : oc v (v.2.1 3 dd) = (dfnC v dd).body := rfl
  intro _ _ n4 en4 _ _ _ n5 en5 _
  rw [en4, en5]
  -- what is bound
  have go : ∀ pl : Int, (∀ w, CG f8b f8m v w → BnOk w → bdL w = (dfnC v dd).params.zip (Ob.toList (Ob.rgt (oc v m))) → (∀ x, Ob.isVar x = true → Ob.wt (Sp.arOf E) (Ob.lkD (bdL w) x) ∧ (Ob.lkD (bdL w) x).sz ≤ 120) → StJ E c x g row ctx v0 w → w.1 31 = v.1 31 → w.2.1 51 = v.2.1 51 → PdK B f8Jn f8Jr u0 w R (Sp.bd (if (dfnC v dd).meas.isNone then Sp.bd (Sp.fill (Ob.lkD ((dfnC v dd).params.zip (Ob.toList (Ob.rgt (oc v m))))) (dfnC v dd).body) (fun x => Sp.rw E d ctx x (decide (g = 1)))
          else if Ob.isCallOf (dfnC v dd).body Ob.ifS then Sp.bd (Sp.fill (Ob.lkD ((dfnC v dd).params.zip (Ob.toList (Ob.rgt (oc v m))))) (Ob.item (dfnC v dd).body 1)) (fun q => Sp.bd (Sp.rw E d ctx q true) (fun a => if Ob.isConst a then Sp.bd (Sp.fill (Ob.lkD ((dfnC v dd).params.zip (Ob.toList (Ob.rgt (oc v m))))) (Ob.item (dfnC v dd).body (if a = Ob.nil then 3 else 2))) (fun x => Sp.rw E d ctx x (decide (g = 1))) else Sp.ret (oc v m))) else Sp.ret (oc v m)) (fun y => K (Sp.fin (decide (g = 1)) y))) → NdC w E (v.2.1 3 dd) → oc w (v.2.1 3 dd) = (dfnC v dd).body →
      br (pl = 0) (pv_7_item (v.2.1 3 dd) 1 (fun v10 u => pv_6_unfold_134 (fun u => ovp (t + 1) (pv_6_rewritten_20 Q (t + 1) u)) c pl v10 u) w) (pv_6_unfold_134 (fun u => ovp (t + 1) (pv_6_rewritten_20 Q (t + 1) u)) c pl (v.2.1 3 dd) w)) → pv_6_unfold_86 (fun u => ovp (t + 1) (pv_6_rewritten_20 Q (t + 1) u)) c dd (v.2.1 3 dd) pl v := by
    intro pl h
    unfold pv_6_unfold_86
    intro _ _ n6 en6 _ _ _ n7 en7 _
    rw [en6, en7, h5]
    refine pc_right hT nm.1 (fun rr vrr err => ?_)
    refine pc_bound hT hE nm hc d0 d1 d3 vrr err (fun w gw bw ew lw => ?_)
    have w32 : w.1 32 = 0 := by rw [gw.2.2.1 32 (by decide)]; exact hS.2.2.1
    have hSw := hS.gen gw f8b_J f8m_J (by decide) (by decide) w32
    have hPw := hP.same (gw.mono f8b_J f8m_J) (fun k h1 h2 => gw.2.2.1 k (by unfold f8b; exact decide_eq_false (by omega)))
    obtain ⟨nbw, ebw⟩ := nb.up hT gw
    exact h w gw bw ew lw hSw (gw.2.2.1 31 (by decide)) (gw.2.2.2 51 (by decide)) hPw nbw (ebw.trans eb)
  refine ⟨fun z4 => ?_, fun z4 => ?_⟩
  · have hmn : (dfnC v dd).meas.isNone = false := by rw [hme]; exact decide_eq_false z4
    unfold pv_6_unfold_59
    refine ⟨fun z => absurd rfl z, fun _ => ?_⟩
    refine pc_isCallK 3 hT nb.1 (by decide) (by decide) (o := Ob.ifS) rfl (fun r3 hr3 => ⟨fun z => go 0 (fun w gw bw ew lw hSw w31 w51 hPw nbw ebw => ?_), fun z => ?_⟩)
    rotate_left
    · rw [if_neg (by rw [hmn]; decide), if_neg (by rw [← eb, hr3.f (Decidable.not_not.mp z)]; decide)] at hP
      intro _ _ n17 en17 _
      rw [en17, h5]
      exact fr_fin (t := t + 1) hM hS.1 hS.2.1 nm.d hP.retd (by omega) (fun w h _ => h)
    have hif : (dfnC v dd).body.isCallOf Ob.ifS = true := by rw [← eb]; exact hr3.t z
    rw [if_neg (by rw [hmn]; decide), if_pos hif] at hPw
    refine ⟨fun _ => ?_, fun z => absurd rfl z⟩
    refine pc_it gw.1 nbw (by rw [ebw]; exact hif) ifq' (arOf_ifS E) (by decide) (by decide) (fun b nbb ebb => ?_)
    have ebb : oc w b = Ob.item (dfnC v dd).body 1 := by rw [ebb, ebw]; rfl
    unfold pv_6_unfold_134
    simp only [bd_assoc] at hPw
    rw [← ebb] at hPw
    have mn2 : ∀ a : Ob, Mono (Sp.bd (if Ob.isConst a then Sp.bd (Sp.fill (Ob.lkD ((dfnC v dd).params.zip (Ob.toList (Ob.rgt (oc v m))))) (Ob.item (dfnC v dd).body (if a = Ob.nil then 3 else 2))) (fun x => Sp.rw E d ctx x (decide (g = 1))) else Sp.ret (oc v m)) (fun y => K (Sp.fin (decide (g = 1)) y))) := fun a => Mono.bd (Mono.ite (Mono.bd Mono.fill (fun _ => rw_mono _ _ _ _)) Mono.ret) (nf_mono hM.2.2.2.1 _)
    refine pc_fillJ hPw hC.2.2.1 (fun a => Mono.bd (rw_mono _ _ _ _) mn2) (hE.mono hT (gw.mono f8b_J f8m_J)) nbb bw (fun _ _ => by rw [ew]) lw (fun o y gy yd nt hPy _ => ?_)
    refine ⟨fun _ => ?_, fun z => absurd rfl z⟩
    intro n12 en12 _
    rw [en12]
    refine ⟨fun z _ => rj_dead hC hPy z, fun z => ?_⟩
    have y32 := Decidable.not_not.mp z
    have nO := nt.2.2 y32
    have hSy := hSw.gen gy f8B_J f8W_J (by decide) (by decide) y32
    intro _ _ y1 e1 _ _ n13 en13 _
    obtain ⟨k1, m1, c1, r1, s1, q1⟩ := fr_set gy.1 e1 (by decide)
    have hS1 := hSy.set e1 (by decide)
    have hP1 := hPy.same k1.1 (fun k _ _ => by rw [m1])
    obtain ⟨nO1, eO1⟩ := nO.up gy.1 k1.1
    rw [en13, hS1.2.1.2.2.2.1]
    have y31 : y1.1 31 = v.1 31 := by rw [m1, gy.2.2.1 31 (by decide), w31]
    refine fr_ask (t := t + 1) (k := 0) (g' := 1) hM hS1 nO1 hS1.2.2.2.2.1 (Or.inr rfl) mn2 (by rw [eO1]; exact hP1) (by decide) (by rw [y31]; omega) (fun w h _ => h) (fun w' a t' hSw' kw' na w24 hPw' ht' => ?_)
    have gvw : CG f8Jn f8Jr v w' := (((gw.mono f8b_J f8m_J).tr (gy.mono f8B_J f8W_J)).tr k1.1).tr kw'.1
    obtain ⟨nm', em'⟩ := nm.up hT gvw
    have fr2 : ∀ j, j < 17 * (c + 1) → w'.2.1 51 j = y1.2.1 51 j := fun j hj => kw'.2.1 j hj
    have y51 : y.2.1 51 = v.2.1 51 := (gy.2.2.2 51 (by decide)).trans w51
    refine st_choose (m := m) (a := a) (D := dfnC v dd) hM hSw' (by rw [fr2 _ (by omega)]; exact q1) (by rw [fr2 _ (by omega), s1 _ (by omega), y51]; exact h5) nm' (by rw [em']; exact hc) w24 na (by rw [em']; exact d3) hif (by rw [em']; exact hPw') (by omega)
  · have z4 := Decidable.not_not.mp z4
    have hmn : (dfnC v dd).meas.isNone = true := by rw [hme]; exact decide_eq_true z4
    unfold pv_6_unfold_59
    refine ⟨fun _ => go 1 (fun w gw bw ew lw hSw w31 w51 hPw nbw ebw => ?_), fun z => absurd (by decide) z⟩
    rw [if_pos hmn, bd_assoc, ← ebw] at hPw
    refine ⟨(fun z => by cases z), fun _ => ?_⟩
    unfold pv_6_unfold_134
    refine pc_fillJ hPw hC.2.2.1 (fun a => Mono.bd (rw_mono _ _ _ _) (nf_mono hM.2.2.2.1 _)) (hE.mono hT (gw.mono f8b_J f8m_J)) nbw bw (fun _ _ => by rw [ew]) lw (fun o y gy yd nt hPy _ => ?_)
    refine ⟨(fun z => by cases z), fun _ => ?_⟩
    have kz : RjK (c + 1) w y := RjK.of gy f8B_J f8W_J (by decide)
    have z31 : y.1 31 = v.1 31 := by rw [gy.2.2.1 31 (by decide), w31]
    exact fr_instead (t := t + 1) hM (hSw.1.tr kz (by omega)) (hSw.2.1.keep (by rw [gy.2.2.1 23 (by decide)]; exact hSw.2.1.1) (fun j hj _ => kz.2.1 j (by omega)) kz.2.2) hS.2.2.2.2.2 (hSw.2.2.2.2.1.up gw.1 gy) nt hPy (by rw [z31]; omega) (fun w h _ => h)
end
