-- deps: 793
/-! the class: what was taken last is taken back -/
theorem thW_rule [DecidableEq Ob] {u : iST} {E : Sp.Env} {r : Int} {k : Sp.Thm} (hk : thC u r k) (hw : Sp.ThmWf E k) : Ob.wt (Sp.arOf E) (oc u (u.2.1 6 r)) ∧ (u.2.1 7 r ≠ -1 → Ob.wt (Sp.arOf E) (oc u (u.2.1 7 r)) ∧ Ob.wt (Sp.arOf E) (oc u (u.2.1 8 r)) ∧ ∀ x, x ∈ hypC u r → Ob.wt (Sp.arOf E) x) := by
  obtain ⟨_, ⟨w1, _⟩, b, hr⟩ := hw
  have ef : k.form = oc u (u.2.1 6 r) := hk.2.1
  have er : k.rule = rulC u r := hk.2.2
  rw [ef] at w1 hr
  refine ⟨w1, fun z => ?_⟩
  have e3 : rulC u r = some (oc u (u.2.1 7 r), oc u (u.2.1 8 r), hypC u r, decide (u.2.1 10 r ≠ 0), decide (u.2.1 11 r ≠ 0), decide (u.2.1 12 r ≠ 0)) := if_neg z
  rw [er, e3] at hr
  cases e : Sp.ruleOf (oc u (u.2.1 6 r)) with
  | none => rw [e] at hr; cases hr
  | some R =>
    rw [e] at hr
    have hr := Option.some.inj hr
    obtain ⟨a1, a2, a3⟩ := ruleOf_wt w1 e
    have h1 : oc u (u.2.1 7 r) = R.1 := congrArg (fun q : Sp.Rul => q.1) hr
    have h2 : oc u (u.2.1 8 r) = R.2.1 := congrArg (fun q : Sp.Rul => q.2.1) hr
    have h3 : hypC u r = R.2.2.1 := congrArg (fun q : Sp.Rul => q.2.2.1) hr
    rw [h1, h2, h3]
    exact ⟨a1, a2, a3⟩
theorem Th1c.re [DecidableEq Ob] {u : iST} {E E' : Sp.Env} {r : Int} {k : Sp.Thm} (h : Th1c u E r) (hk : thC u r k) (hw : Sp.ThmWf E' k) : Th1c u E' r := by
  obtain ⟨b1, b2, b3⟩ := h
  obtain ⟨w1, w2⟩ := thW_rule hk hw
  refine ⟨b1, b2, fun z => ?_⟩
  obtain ⟨c1, c2, c3, c4, c5, c6⟩ := b3 z
  obtain ⟨x1, x2, x3⟩ := w2 z
  refine ⟨⟨c1.1, x1, c1.2.2⟩, c2, ⟨c3.1, x2, c3.2.2⟩, c4, c5, fun i i0 i1 => ⟨⟨(c6 i i0 i1).1.1, x3 _ ?_, (c6 i i0 i1).1.2.2⟩, (c6 i i0 i1).2⟩⟩
  unfold hypC
  exact List.mem_map.mpr ⟨i.toNat, List.mem_range.mpr (by omega), by rw [show ((i.toNat : Nat) : Int) = i by omega]⟩
def f8U3 (k : Nat) : Bool := decide (k ≤ 3)
theorem HC_undo [DecidableEq Ob] {u v : iST} {H : Sp.Hs} {m : List Ob} (h : HC u H m) (hp : 0 < u.1 2) (v2 : v.2 = u.2) (hn : ∀ j, 3 < j → v.1 j = u.1 j) (v12 : v.1 2 = u.1 2 - 1) (v13 : v.1 3 = u.2.1 15 (u.1 2 - 1)) (h1 : u.2.1 14 (u.1 2 - 1) = 1 → v.1 0 = u.1 0 - 1 ∧ v.1 1 = u.1 1) (h2 : u.2.1 14 (u.1 2 - 1) ≠ 1 → v.1 0 = u.1 0 ∧ v.1 1 = u.1 1 - 1) :
    HC v (if H.2.2.getLast? = some 1 then H.1.dropLast else H.1, if H.2.2.getLast? = some 1 then H.2.1 else H.2.1.dropLast, H.2.2.dropLast) m := by
  obtain ⟨nm1, nm2, nm3, nm4, nm5, nm6, nm7⟩ := h.nums
  obtain ⟨hT, hD, hTo, hF, ⟨hO, l40, l60⟩, ⟨k0, hk⟩, hM, ⟨a37, a27⟩, hP⟩ := h
  obtain ⟨n, hnn⟩ : ∃ n : Nat, u.1 2 = (n : Int) + 1 := ⟨(u.1 2 - 1).toNat, by omega⟩
  have e2 : u.1 2 - 1 = (n : Int) := by omega
  rw [e2] at v12 v13 h1 h2
  have esu : kdC u = kdC v ++ [u.2.1 14 (n : Int)] := by
    unfold kdC
    rw [hnn, v12, v2, show ((n : Int) + 1).toNat = n + 1 by omega, show ((n : Int)).toNat = n by omega, List.range_succ, List.map_append]
    rfl
  have lsv : (kdC v).length = n := by rw [kdC_len, v12]; omega
  have hne : H.2.2 ≠ [] := by rw [hk, esu]; simp
  have hlast : H.2.2.getLast? = some (u.2.1 14 (n : Int)) := by rw [hk, esu]; simp
  have hdl : H.2.2.dropLast = kdC v := by rw [hk, esu, List.dropLast_concat]
  have ok := HOk.undo hO hne
  have sm := CT_same hT (hn 29 (by decide)) (fun k _ _ => by rw [v2]) (by rw [v2])
  have g : CG f8U3 f80 u v := ⟨sm.1, sm.2, fun k hk' => hn k (by unfold f8U3 at hk'; have := of_decide_eq_false hk'; omega), fun k _ => by rw [v2]⟩
  have eo : ∀ j, oc v j = oc u j := fun j => oc_same (by rw [v2]) j
  have v29 : v.1 29 = u.1 29 := hn 29 (by decide)
  have nsv : (Sp.nd (kdC v) : Int) = v.1 0 := by
    have h3 : Sp.nd (kdC u) = Sp.nd (kdC v) + (if u.2.1 14 (n : Int) = 1 then 1 else 0) := by
      rw [esu, nd_app]
      show Sp.nd (kdC v) + (0 + (if u.2.1 14 (n : Int) = 1 then 1 else 0)) = _
      omega
    by_cases c : u.2.1 14 (n : Int) = 1
    · rw [if_pos c] at h3
      have := h1 c
      omega
    · rw [if_neg c] at h3
      have := h2 c
      omega
  have d0 : 0 ≤ v.1 0 := by omega
  have d1 : 0 ≤ v.1 1 := by
    have := nd_le (kdC v)
    by_cases c : u.2.1 14 (n : Int) = 1
    · have := h1 c; omega
    · have := h2 c; omega
  have dle : v.1 0 ≤ u.1 0 ∧ v.1 1 ≤ u.1 1 := by
    by_cases c : u.2.1 14 (n : Int) = 1
    · have := h1 c; omega
    · have := h2 c; omega
  have edf : ∀ i, dfnC v i = dfnC u i := fun i => by unfold dfnC; rw [v2, eo, eo, eo, eo]
  have eD1 : H.1 = dfsC u := hD.1
  have edefs : (if H.2.2.getLast? = some 1 then H.1.dropLast else H.1) = dfsC v := by
    rw [hlast, eD1]
    have ev : ∀ k : Nat, (List.range k).map (fun i : Nat => dfnC v (i : Int)) = (List.range k).map (fun i : Nat => dfnC u (i : Int)) := fun k => List.map_congr_left (fun i _ => edf _)
    unfold dfsC
    rw [ev]
    by_cases c : u.2.1 14 (n : Int) = 1
    · have := h1 c
      rw [if_pos (by rw [c]), show (u.1 0).toNat = (v.1 0).toNat + 1 by omega, rng_dropLast]
    · have := h2 c
      rw [if_neg (fun z => c (Option.some.inj z)), this.1]
  generalize hts : (if H.2.2.getLast? = some 1 then H.2.1 else H.2.1.dropLast) = ts
  have ets : (ts.length : Int) = v.1 1 ∧ ∀ r : Nat, (r : Int) < v.1 1 → ts[r]? = H.2.1[r]? := by
    rw [hlast] at hts
    by_cases c : u.2.1 14 (n : Int) = 1
    · have q := h1 c
      rw [if_pos (by rw [c])] at hts
      rw [← hts]
      exact ⟨by omega, fun r _ => rfl⟩
    · have q := h2 c
      rw [if_neg (fun z => c (Option.some.inj z))] at hts
      rw [← hts]
      refine ⟨by rw [List.length_dropLast]; omega, fun r hr => ?_⟩
      rw [List.dropLast_eq_take, List.getElem?_take_of_lt (by omega)]
  rw [hts] at ok
  rw [edefs] at ok ⊢
  rw [hdl] at ok ⊢
  have wf := HOk.wf ok
  have tks : ∀ j : Nat, j ≤ n → (kdC v).take j = (kdC u).take j := fun j hj => by rw [esu, List.take_append_of_le_length (by omega)]
  have mka : ∀ (M : Int) (j : Nat), j ≤ n → LowAt u M j → LowAt v M j := fun M j hj hM => by
    unfold LowAt LowD LowT at hM ⊢
    rw [tks j hj, v2]
    exact hM
  have th : ∀ r : Nat, (r : Int) < v.1 1 → ∃ k, ts[r]? = some k ∧ thC u (r : Int) k ∧ Sp.ThmWf (dfsC v, ts, m) k := fun r hr => by
    obtain ⟨_, ⟨k, hk1, hk2⟩, _⟩ := hTo.2 r (by omega)
    have e : ts[r]? = some k := (ets.2 r hr).trans hk1
    exact ⟨k, e, hk2, wf.2.1 k (List.mem_of_getElem? e)⟩
  refine ⟨g.1, ⟨rfl, d0, fun d q0 q1 => ?_⟩, ⟨ets.1, fun r hr => ?_⟩, fun j hj => ?_, ⟨ok, ?_, ?_⟩, ⟨by omega, rfl⟩, ⟨⟨?_, ?_, ?_⟩, fun j j0 j1 => ?_⟩, ⟨by rw [hn 37 (by decide)]; exact a37, by rw [hn 27 (by decide)]; exact a27⟩, ?_⟩
  · exact ((hD.2.2 d q0 (by omega)).mono hT g (fun k _ => by rw [v2])).1
  · obtain ⟨b1, _, b3⟩ := hTo.2 r (by omega)
    obtain ⟨k, e, t1, t2⟩ := th r hr
    obtain ⟨m1, m2, m3, m4⟩ := (b1.re t1 t2).mono hT g (fun k _ _ => by rw [v2]) (by rw [v2])
    refine ⟨m1, ⟨k, e, ?_, ?_, ?_⟩, ?_⟩
    · rw [m3]; exact t1.1
    · rw [m4]; exact t1.2.1
    · rw [m2]; exact t1.2.2
    · rw [m3, v2]; exact b3
  · obtain ⟨k, e, t1, t2⟩ := th j hj
    have q := hF j (by omega)
    rw [v2]
    refine ⟨⟨q.1.1, by rw [v29]; exact q.1.2⟩, ?_, by rw [eo]; exact q.2.2⟩
    rw [eo]
    exact (thW_rule t1 t2).1
  · show (dfsC v).length ≤ 40
    rw [dfsC_len]
    omega
  · show ts.length ≤ 60
    omega
  · rw [v13]; exact (hM.2 (n : Int) (by omega) (by omega)).1
  · rw [v13, v29]
    have := (hM.2 (n : Int) (by omega) (by omega)).2.1
    have := hM.1.2.1
    omega
  · rw [v13, v12, show ((n : Int)).toNat = n by omega]
    have := (hM.2 (n : Int) (by omega) (by omega)).2.2.2
    rw [show ((n : Int)).toNat = n by omega] at this
    exact mka _ _ (Nat.le_refl _) this
  · rw [v12] at j1
    obtain ⟨b1, b2, b3, b4⟩ := hM.2 j j0 (by omega)
    rw [v2, v13]
    refine ⟨b1, ?_, b3, mka _ _ (by omega) b4⟩
    exact (hM.2 (n : Int) (by omega) (by omega)).2.2.1 j j0 j1
  · unfold PmC at hP ⊢
    rw [v2]
    exact hP
