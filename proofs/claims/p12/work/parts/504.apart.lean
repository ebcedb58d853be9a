-- deps: 503
/-! the reference, partial: no call within a call -/
def flatE [DecidableEq Ob] (f : Ob) (e : List Ob × Ob) : Bool := e.1.all (fun r => !Sp.hasCall r f) && (Sp.callsIn e.2 f).all (fun c => (Ob.toList (Ob.rgt c)).all (fun a => !Sp.hasCall a f))
theorem paths_wt [DecidableEq Ob] {E : Sp.Env} : ∀ (n : Nat) (o : Ob), SizeOf.sizeOf o < n → Ob.wt (Sp.arOf E) o → ∀ p, p ∈ Sp.paths o → (∀ q, q ∈ p.1 → Ob.wt (Sp.arOf E) q.1) ∧ Ob.wt (Sp.arOf E) p.2
  | 0, _, h, _ => by omega
  | n + 1, o, h, w => by
    intro p hp
    by_cases c : o.isCallOf Ob.ifS = true
    · obtain ⟨q, b, d, e, wq, wb, wd⟩ := Ob.wt_three w c ifS_q (arOf_ifS E)
      rw [e, paths_if] at hp
      rw [e] at h
      simp at h
      rcases List.mem_append.mp hp with hp | hp
      · obtain ⟨p', hp', rfl⟩ := List.mem_map.mp hp
        have ih := paths_wt n b (by omega) wb p' hp'
        refine ⟨fun q' hq' => ?_, ih.2⟩
        rcases List.mem_cons.mp hq' with rfl | hq'
        · exact wq
        · exact ih.1 q' hq'
      · obtain ⟨p', hp', rfl⟩ := List.mem_map.mp hp
        have ih := paths_wt n d (by omega) wd p' hp'
        refine ⟨fun q' hq' => ?_, ih.2⟩
        rcases List.mem_cons.mp hq' with rfl | hq'
        · exact wq
        · exact ih.1 q' hq'
    · rw [paths_no (by simpa using c)] at hp
      rw [List.mem_singleton.mp hp]
      exact ⟨fun q hq => (by cases hq), w⟩
theorem hasCall_leaf [DecidableEq Ob] {o f : Ob} (h : o.isPr = false) : Sp.hasCall o f = false := by
  cases o with
  | op a b => cases h
  | var x => rfl
theorem hasCall_cl [DecidableEq Ob] {g f : Ob} {l : List Ob} (hq : g ≠ Ob.quote) : Sp.hasCall (.pr g (Ob.ofList l)) f = (decide (g = f) || l.any (fun a => Sp.hasCall a f)) := by
  unfold Sp.hasCall
  rw [parts_cl hq, List.any_cons, List.any_flatMap]
  rfl
theorem hasCall_quote [DecidableEq Ob] {o f : Ob} (h : o.isConst = true) (hf : f ≠ Ob.quote) : Sp.hasCall o f = false := by
  have hc : o.isCall = false := by rcases Ob.kinds o with z | z | z <;> simp_all
  unfold Sp.hasCall
  rw [parts_no hc]
  cases o with
  | var x => rfl
  | op a b =>
    have h : decide (a = Ob.quote) = true := h
    show (decide (a = f) || false) = false
    rw [Bool.or_false]
    exact decide_eq_false (fun z => hf (z.symm.trans (of_decide_eq_true h)))
theorem hasCall_neg [DecidableEq Ob] {E : Sp.Env} {o f : Ob} (w : Ob.wt (Sp.arOf E) o) (hf : f ≠ Ob.quote) (hn : f ≠ Ob.not) : Sp.hasCall (Ob.neg o) f = Sp.hasCall o f := by
  unfold Ob.neg
  by_cases c : o.isCallOf Ob.not = true
  · rw [if_pos c]
    obtain ⟨x, e, wx⟩ := Ob.wt_one w c not_q (arOf_not E)
    rw [e]
    show Sp.hasCall x f = Sp.hasCall (.pr Ob.not (Ob.ofList [x])) f
    rw [hasCall_cl not_q, decide_eq_false (fun z => hn z.symm)]
    show _ = (false || (Sp.hasCall x f || false))
    rw [Bool.false_or, Bool.or_false]
  · rw [if_neg c]
    by_cases c2 : o = Ob.nil
    · rw [if_pos c2, c2, hasCall_leaf rfl, hasCall_leaf rfl]
    · rw [if_neg c2]
      by_cases c3 : o.isConst = true
      · rw [if_pos c3, hasCall_leaf rfl, hasCall_quote c3 hf]
      · rw [if_neg c3]
        show Sp.hasCall (.pr Ob.not (Ob.ofList [o])) f = _
        rw [hasCall_cl not_q, decide_eq_false (fun z => hn z.symm)]
        show (false || (Sp.hasCall o f || false)) = _
        rw [Bool.false_or, Bool.or_false]
theorem all_congr [DecidableEq Ob] {α : Type} {p q : α → Bool} : ∀ l : List α, (∀ a, a ∈ l → p a = q a) → l.all p = l.all q
  | [], _ => rfl
  | a :: l, h => by rw [List.all_cons, List.all_cons, h a List.mem_cons_self, all_congr l (fun b hb => h b (List.mem_cons_of_mem _ hb))]
/-- what is looked at is what is meant -/
theorem flat_pth [DecidableEq Ob] {E : Sp.Env} {f B : Ob} (w : Ob.wt (Sp.arOf E) B) (hf : f ≠ Ob.quote) (hn : f ≠ Ob.not) : (pth [] B).all (flatE f) = Sp.flat f B := by
  unfold pth Sp.flat
  rw [List.all_map]
  refine all_congr _ (fun p hp => ?_)
  have hw := paths_wt _ B (Nat.lt_succ_self _) w p hp
  show (([] ++ p.1.map rulQ).all (fun r => !Sp.hasCall r f) && _) = _
  rw [List.nil_append, List.all_map]
  refine congr (congrArg _ (all_congr _ (fun q hq => ?_))) rfl
  show (!Sp.hasCall (rulQ q) f) = !Sp.hasCall q.1 f
  unfold rulQ
  split
  · rw [hasCall_neg (hw.1 q hq) hf hn]
  · rfl
theorem fdL_get [DecidableEq Ob] {v : iST} {i : Nat} (h : i < (v.1 131).toNat) : (fdL v)[i]? = some (ob v (v.2.1 130 (i : Int))) := by
  have := ls_get v (v.2.1 130) 0 (v.1 131).toNat h
  rw [show (0 : Int) + (i : Int) = (i : Int) by omega] at this
  exact this
theorem p_areApart [DecidableEq Ob] {f : Int} {Q : Int → iST → Prop} {u : iST} {E : Sp.Env} (hT : TI u) (hU : TU u) (hP : PthOk u E) (f0 : 0 ≤ f) (f1 : f < u.1 8) (fq : ob u f ≠ Ob.quote) (hq : ∀ r v, GZ f7F u v → bq r ((pthL u).all (flatE (ob u f))) → Q r v) : pw_areApart f Q u := by
  have p0 := hP.1
  have pall : ∀ p : Nat, (p : Int) < u.1 126 → ent u 123 124 125 (p : Int) ∈ pthL u := fun p hp => List.mem_map.mpr ⟨p, List.mem_range.mpr (by omega), rfl⟩
  have bad : ∀ (v : iST) (p : Nat), GZ f7F u v → (p : Int) < u.1 126 → flatE (ob u f) (ent u 123 124 125 (p : Int)) = false → Q 0 v := by
    intro v p gv hp he
    refine hq 0 v gv (bq0 ?_)
    rw [List.all_eq_false]
    exact ⟨_, pall p hp, by rw [he]; decide⟩
  have keep : ∀ v, GZ f7F u v → PthOk v E ∧ v.1 126 = u.1 126 ∧ v.2.1 123 = u.2.1 123 ∧ v.2.1 124 = u.2.1 124 ∧ v.2.1 125 = u.2.1 125 := fun v gv => by
    have e126 := (gv.2.2.2.2 126 (by decide)).1
    have e123 := (gv.2.2.2.2 123 (by decide)).2
    have e124 := (gv.2.2.2.2 124 (by decide)).2
    have e125 := (gv.2.2.2.2 125 (by decide)).2
    exact ⟨(hP.mono hT gv e126 e123 e124 e125).1, e126, e123, e124, e125⟩
  unfold pw_areApart
  refine pw_areApart_2_i (fun x1 x2 v => x1 = f ∧ ∃ n : Nat, x2 = (n : Int) ∧ GZ f7F u v ∧ ∀ p : Nat, p < n → (p : Int) < u.1 126 → flatE (ob u f) (ent u 123 124 125 (p : Int)) = true) ?_ ⟨rfl, 0, rfl, GZ.rf hT hU, fun p hp => by omega⟩
  intro x1 x2 v hI
  obtain ⟨e1, n, e2, gv, hn⟩ := hI
  rw [e1, e2]
  unfold pw_areApart_2b
  intro y ey _
  obtain ⟨hPv, k126, k123, k124, k125⟩ := keep v gv
  rw [k126] at ey
  refine ⟨fun hc _ => hq 1 v gv (bq1 ?_), fun hc => ?_⟩
  · rw [List.all_eq_true]
    intro e he
    obtain ⟨p, hp, rfl⟩ := List.mem_map.mp he
    have := List.mem_range.mp hp
    exact hn p (by omega) (by omega)
  have hEn := hP.2 (n : Int) (by omega) (by omega)
  have hrow : ∀ k : Nat, (k : Int) < u.2.1 125 (n : Int) → ob u (u.2.1 124 (64 * (n : Int) + (k : Int))) ∈ (ent u 123 124 125 (n : Int)).1 := fun k hk => ls_mem.mpr ⟨k, by omega, rfl⟩
  refine pw_areApart_12_i (fun x1 x2 x3 v => x1 = f ∧ x2 = (n : Int) ∧ ∃ m : Nat, x3 = (m : Int) ∧ GZ f7F u v ∧ ∀ k : Nat, k < m → (k : Int) < u.2.1 125 (n : Int) → Sp.hasCall (ob u (u.2.1 124 (64 * (n : Int) + (k : Int)))) (ob u f) = false) ?_ ⟨rfl, rfl, 0, rfl, gv, fun k hk => by omega⟩
  intro x1 x2 x3 v hI
  obtain ⟨e1, e2, m, e3, gv, hm⟩ := hI
  rw [e1, e2, e3]
  obtain ⟨hPv, k126, k123, k124, k125⟩ := keep v gv
  have hl := gv.le
  have fv := gv.ob hT f0 f1
  unfold pw_areApart_12b
  intro _ _ y ey _
  rw [k125] at ey
  refine ⟨fun hd => ?_, fun hd => ?_⟩
  · intro _ _ z ez _
    have rulers : (ent u 123 124 125 (n : Int)).1.all (fun r => !Sp.hasCall r (ob u f)) = true := by
      rw [List.all_eq_true]
      intro r hr
      obtain ⟨k, k1, ek⟩ := ls_mem.mp hr
      rw [← ek, hm k (by omega) (by omega)]
      rfl
    have nz := (hPv.2 (n : Int) (by omega) (by omega)).1.1
    rw [← ez] at nz
    have ezo : ob v z = ob u (u.2.1 123 (n : Int)) := by
      rw [ez, k123]
      exact (hEn.1.1.mono hT gv).2
    refine p_find gv.1 gv.2.1 (ar := Sp.arOf E) nz f0 (by omega) (fun w gw fw lw => ?_)
    rw [ezo, fv] at lw
    have flat_e : flatE (ob u f) (ent u 123 124 125 (n : Int)) = (fdL w).all (fun c => (Ob.toList (Ob.rgt c)).all (fun a => !Sp.hasCall a (ob u f))) := by
      unfold flatE
      rw [rulers, Bool.true_and, lw]
      rfl
    generalize hgl : fdL w = L at flat_e
    have hlen : L.length = (w.1 131).toNat := by rw [← hgl]; exact ls_len _ _ _ _
    refine pw_areApart_62_i (fun x1 x2 x3 t => x1 = f ∧ x2 = (n : Int) ∧ ∃ m : Nat, x3 = (m : Int) ∧ GZ f7F u t ∧ FdOk t (Sp.arOf E) ∧ fdL t = L ∧ ∀ c : Nat, c < m → ∀ o, L[c]? = some o → (Ob.toList (Ob.rgt o)).all (fun a => !Sp.hasCall a (ob u f)) = true) ?_ ⟨rfl, rfl, 0, rfl, gv.tr gw, fw, hgl, fun c hc => by omega⟩
    intro x1 x2 x3 t hI
    obtain ⟨e1, e2, c, e3, gt, ft, lt, hc'⟩ := hI
    rw [e1, e2, e3]
    have t131 : (t.1 131).toNat = L.length := by rw [← lt]; exact (ls_len _ _ _ _).symm
    have ft0 := ft.1
    unfold pw_areApart_62b
    intro y2 ey2 _
    refine ⟨fun he _ => ⟨rfl, n + 1, by omega, gt, fun p hp h1 => ?_⟩, fun he => ?_⟩
    · by_cases cp : p = n
      · rw [cp, flat_e, List.all_eq_true]
        intro o ho
        obtain ⟨i, hi, ei⟩ := List.getElem_of_mem ho
        exact hc' i (by omega) o (by rw [List.getElem?_eq_getElem hi, ei])
      · exact hn p (by omega) h1
    · intro _ _ k ek _ _ _ j ej _
      have nk := ft.2 (c : Int) (by omega) (by omega)
      have hget := fdL_get (v := t) (i := c) (by omega)
      rw [lt, ← ek] at hget
      rw [← ek] at nk
      have hmem : ob t k ∈ L := List.mem_of_getElem? hget
      have hcall : (ob t k).isCallOf (ob u f) = true := by
        rw [← hgl, lw] at hmem
        exact (List.mem_filter.mp hmem).2
      have hcl : (ob t k).isCall = true := by
        obtain ⟨b, eb⟩ := Ob.isCallOf_iff.mp hcall
        rw [eb]; exact decide_eq_true fq
      obtain ⟨g, l, e, g1, g2, g3, g4⟩ := NdA.call nk hcl
      obtain ⟨a, b, a', b', _, er, _⟩ := ob_lft gt.1 nk.1 nk.2.1 (by rw [e]; rfl)
      have er' : ob t j = Ob.ofList l := by rw [ej, ← er, e]; rfl
      have ht8 := gt.1.le
      have nk1 := nk.2.1
      rw [← ej] at a' b'
      have hlow := ob_len_le gt.1 _ j (Nat.lt_succ_self _) a' (by omega)
      rw [er', Ob.len_ofList] at hlow
      refine p_lengthOf gt.1 gt.2.1 a' (by omega) ?_
      rw [er', Ob.len_ofList]
      refine pw_areApart_90_i (fun x1 x2 x3 x4 x5 s => x1 = f ∧ x2 = (n : Int) ∧ x3 = (c : Int) ∧ x4 = (l.length : Int) ∧ ∃ i : Nat, x5 = (i : Int) + 1 ∧ i ≤ l.length ∧ GZ f7W t s ∧ ∀ a, a < i → Sp.hasCall (l.getD a Ob.nil) (ob u f) = false) ?_ ⟨rfl, rfl, rfl, rfl, 0, rfl, by omega, GZ.rf gt.1 gt.2.1, fun a ha => by omega⟩
      intro x1 x2 x3 x4 x5 s hI
      obtain ⟨e1, e2, e3, e4, i, e5, hi, gs, hai⟩ := hI
      rw [e1, e2, e3, e4, e5]
      have s131 := (gs.2.2.2.2 131 (by decide)).1
      have s130 := (gs.2.2.2.2 130 (by decide)).2
      obtain ⟨fs, es⟩ := ft.mono gt.1 gs s131 s130
      have gus := gt.tr (gs.mono f7W_F)
      unfold pw_areApart_90b
      refine ⟨fun hz _ => ⟨rfl, rfl, c + 1, by omega, gus, fs, es.trans lt, fun d hd' o ho => ?_⟩, fun hz => ?_⟩
      · by_cases cd : d = c
        · rw [cd, hget] at ho
          have ho := Option.some.inj ho
          rw [← ho, e, Ob.rgt_pr, Ob.toList_ofList, List.all_eq_true]
          intro a ha
          obtain ⟨ia, hia, eia⟩ := List.getElem_of_mem ha
          have := hai ia (by omega)
          rw [List.getD_eq_getElem?_getD, List.getElem?_eq_getElem hia, eia] at this
          have this : Sp.hasCall a (ob u f) = false := this
          rw [this]; rfl
        · exact hc' d (by omega) o ho
      · intro _ _ k2 ek2 _
        have ek2' : k2 = k := by rw [ek2, s130, ek]
        rw [ek2']
        obtain ⟨nks, eks⟩ := nk.mono gt.1 gs
        have hle := gus.le
        refine p_term gs.1 nks.1 nks.2.1 (by omega) (by omega) (by rw [eks, e, show ((i : Int) + 1).toNat = i + 1 by omega]; exact hasIt_ofList l i (by omega)) (fun a a0 a1 ea => ?_)
        rw [eks, e, show ((i : Int) + 1).toNat = i + 1 by omega, Ob.item_call] at ea
        have hmem : l.getD i Ob.nil ∈ l := by
          rw [List.getD_eq_getElem?_getD, List.getElem?_eq_getElem (by omega)]
          exact List.getElem_mem (by omega)
        have na : NdA s (Sp.arOf E) a := ⟨a0, a1, by rw [ea]; exact (g4 _ hmem).2.mono gs gt.1, by rw [ea]; exact (g4 _ hmem).1⟩
        refine p_hasCall gs.1 gs.2.1 na f0 (by omega) (fun r s2 gs2 hr => ?_)
        rw [ea, gus.ob hT f0 f1] at hr
        refine ⟨fun hz2 _ => ⟨rfl, rfl, rfl, rfl, i + 1, by omega, by omega, gs.tr gs2, fun a' ha' => ?_⟩, fun hz2 _ => bad s2 n (gus.tr (gs2.mono f7W_F)) (by omega) ?_⟩
        · by_cases ca : a' = i
          · rw [ca]; exact hr.f hz2
          · exact hai a' (by omega)
        · rw [flat_e, List.all_eq_false]
          refine ⟨ob t k, List.mem_of_getElem? hget, ?_⟩
          rw [e, Ob.rgt_pr, Ob.toList_ofList]
          intro hall
          rw [List.all_eq_true] at hall
          have := hall _ hmem
          rw [hr.t hz2] at this
          exact absurd this (by decide)
  · intro _ _ _ _ z ez _
    rw [k124] at ez
    have nz := (hEn.2 (m : Int) (by omega) (by omega)).1
    rw [← ez] at nz
    obtain ⟨nzv, ezv⟩ := nz.mono hT gv
    refine p_hasCall gv.1 gv.2.1 (ar := Sp.arOf E) nzv f0 (by omega) (fun r w gw hr => ?_)
    rw [ezv, fv] at hr
    refine ⟨fun hz _ => ⟨rfl, rfl, m + 1, by omega, gv.tr (gw.mono f7W_F), fun k hk h1 => ?_⟩, fun hz _ => bad w n (gv.tr (gw.mono f7W_F)) (by omega) ?_⟩
    · by_cases c : k = m
      · rw [c, ← ez]; exact hr.f hz
      · exact hm k (by omega) h1
    · unfold flatE
      have : (ent u 123 124 125 (n : Int)).1.all (fun r => !Sp.hasCall r (ob u f)) = false := by
        rw [List.all_eq_false]
        refine ⟨_, hrow m (by omega), ?_⟩
        rw [← ez, hr.t hz]; decide
      rw [this]; rfl
