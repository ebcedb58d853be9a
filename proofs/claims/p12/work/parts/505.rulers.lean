-- deps: 504
/-! what rules a path, as literals -/
theorem bd_ret [DecidableEq Ob] {α β : Type} (a : α) (f : α → Sp.M β) : Sp.bd (Sp.ret a) f = f a := rfl
theorem isVar_leaf [DecidableEq Ob] {o : Ob} (h : o.isVar = true) : o.isPr = false := by
  cases o with
  | var x => rfl
  | op a b => cases h
theorem sz_leaf [DecidableEq Ob] {o : Ob} (h : o.isPr = false) : o.sz = 1 := by
  cases o with
  | var x => rfl
  | op a b => cases h
theorem szM_pr [DecidableEq Ob] (a b : Ob) : Ob.szM false (.pr a b) = if a = Ob.quote then 1 else 1 + Ob.szM true b := rfl
theorem szM_row [DecidableEq Ob] (a b : Ob) : Ob.szM true (.pr a b) = Ob.szM false a + Ob.szM true b := rfl
theorem sz_sb [DecidableEq Ob] {s : Ob → Ob} (hs : ∀ x : Ob, x.isVar = true → (s x).isPr = false) : ∀ (m : Bool) (o : Ob), Ob.szM m (Ob.sbM s m o) = Ob.szM m o
  | true, .op a b => by
    rw [show Ob.sbM s true (.op a b) = _ from sb_row s a b, szM_row, sz_sb hs false a, sz_sb hs true b]
    rfl
  | true, .var x => rfl
  | false, .op a b => by
    rw [show Ob.sbM s false (.op a b) = _ from sb_pr s a b]
    by_cases c : a = Ob.quote
    · rw [if_pos c]
    · rw [if_neg c, szM_pr, if_neg c, sz_sb hs true b]
      exact (if_neg c).symm
  | false, .var x => by
    rw [sb_leaf]
    by_cases c : Ob.isVar (.var x) = true
    · rw [if_pos c]; exact sz_leaf (hs _ c)
    · rw [if_neg c]
theorem sb_id [DecidableEq Ob] : ∀ (m : Bool) (o : Ob), Ob.sbM (fun x => x) m o = o
  | true, .op a b => by rw [show Ob.sbM _ true (.op a b) = _ from sb_row _ a b, sb_id false a, sb_id true b]
  | true, .var x => rfl
  | false, .op a b => by
    rw [show Ob.sbM _ false (.op a b) = _ from sb_pr _ a b, sb_id true b]
    split <;> rfl
  | false, .var x => by
    rw [sb_leaf]
    split <;> rfl
theorem sb_const [DecidableEq Ob] {s : Ob → Ob} {o : Ob} (h : o.isConst = true) : Ob.sbM s false o = o := by
  have hk : o.isVar = false := by rcases Ob.kinds o with z | z | z <;> simp_all
  cases o with
  | var x => rw [sb_leaf, if_neg (by rw [hk]; decide)]
  | op a b =>
    have h : decide (a = Ob.quote) = true := h
    rw [show Ob.sbM s false (.op a b) = _ from sb_pr s a b, if_pos (of_decide_eq_true h)]
theorem sb_neg [DecidableEq Ob] {E : Sp.Env} {s : Ob → Ob} (hs : ∀ x : Ob, x.isVar = true → (s x).isVar = true) {q : Ob} (w : Ob.wt (Sp.arOf E) q) : Ob.sbM s false (Ob.neg q) = Ob.neg (Ob.sbM s false q) := by
  by_cases c : q.isCallOf Ob.not = true
  · obtain ⟨x, e, wx⟩ := Ob.wt_one w c not_q (arOf_not E)
    have e1 : Ob.neg q = x := by unfold Ob.neg; rw [if_pos c, e]; rfl
    have e2 : Ob.sbM s false q = .pr Ob.not (.pr (Ob.sbM s false x) Ob.nil) := by
      rw [e, sb_pr, if_neg not_q, sb_row]
      rfl
    rw [e1, e2]
    unfold Ob.neg
    rw [if_pos (by rw [Ob.isCallOf_pr]; exact decide_eq_true rfl)]
    rfl
  · by_cases c2 : q = Ob.nil
    · have en : Ob.neg Ob.nil = Ob.t := by
        unfold Ob.neg
        rw [if_neg (fun z => by cases z), if_pos rfl]
      rw [c2, sb_const (o := Ob.nil) (by unfold Ob.isConst Ob.nil; simp [Ob.sym]), en]
      exact sb_const (by unfold Ob.isConst Ob.t; simp [Ob.sym])
    · by_cases c3 : q.isConst = true
      · rw [sb_const c3]
        unfold Ob.neg
        rw [if_neg c, if_neg c2, if_pos c3]
        exact sb_const (by unfold Ob.isConst Ob.nil; simp [Ob.sym])
      · have e1 : Ob.neg q = .pr Ob.not (.pr q Ob.nil) := by unfold Ob.neg; rw [if_neg c, if_neg c2, if_neg c3]
        rw [e1, sb_pr, if_neg not_q, sb_row]
        have key : (Ob.sbM s false q).isCallOf Ob.not ≠ true ∧ Ob.sbM s false q ≠ Ob.nil ∧ (Ob.sbM s false q).isConst ≠ true := by
          cases q with
          | var x =>
            have hv : Ob.isVar (.var x) = true := by
              rcases Ob.kinds (.var x) with z | z | z
              · exact absurd z.1 c3
              · cases z.2.1
              · exact z.2.2
            rw [sb_leaf, if_pos hv]
            have h1 := hs _ hv
            have h2 := isVar_leaf h1
            refine ⟨fun z => ?_, fun z => ?_, fun z => ?_⟩
            · obtain ⟨b, eb⟩ := Ob.isCallOf_iff.mp z
              rw [eb] at h2; cases h2
            · rw [z] at h1
              unfold Ob.isVar at h1
              simp at h1
            · rcases Ob.kinds (s (.var x)) with y | y | y
              · rw [y.2.2] at h1; cases h1
              · rw [y.1] at z; cases z
              · rw [y.1] at z; cases z
          | op a b =>
            have hq : a ≠ Ob.quote := fun z => c3 (decide_eq_true z)
            rw [show Ob.sbM s false (.op a b) = _ from sb_pr s a b, if_neg hq]
            exact ⟨c, fun z => (by cases z), c3⟩
        unfold Ob.neg
        rw [if_neg key.1, if_neg key.2.1, if_neg key.2.2]
        rfl
theorem not_ok [DecidableEq Ob] {o : Ob} (h : (Ob.neg o).sz ≤ 120) (s : Sp.Wk) : ∃ s', Sp.mkNot o s = .ok (Ob.neg o) s' ∧ s'.1 = s.1 := by
  unfold Sp.mkNot
  unfold Ob.neg at h ⊢
  split
  · exact ⟨s, rfl, rfl⟩
  · split
    · exact ⟨s, rfl, rfl⟩
    · split
      · exact ⟨s, rfl, rfl⟩
      · next h1 h2 h3 =>
        rw [if_neg h1, if_neg h2, if_neg h3] at h
        unfold Sp.mk1 Sp.big
        rw [if_neg (by omega)]
        exact ⟨_, rfl, rfl⟩
theorem fill_ok [DecidableEq Ob] {σ : Ob → Ob} {o : Ob} (h : (Ob.sbM σ false o).sz ≤ 120) (s : Sp.Wk) : ∃ s', Sp.fill σ o s = .ok (Ob.sbM σ false o) s' ∧ s'.1 = s.1 := by
  unfold Sp.fill Sp.fillU Sp.big
  rw [if_neg (by omega)]
  exact ⟨_, rfl, rfl⟩
theorem rulers_ok [DecidableEq Ob] {E : Sp.Env} {σ : Ob → Ob} (hσ : ∀ x : Ob, x.isVar = true → (σ x).isVar = true) : ∀ (ps : List (Ob × Bool)) (l : List Ob) (s : Sp.Wk), (∀ q, q ∈ ps → Ob.wt (Sp.arOf E) q.1 ∧ q.1.sz ≤ 118) → ∃ s', Sp.rulersGo σ ps l s = .ok (((ps.map rulQ).map (fun r => Ob.neg (Ob.sbM σ false r))).foldl Sp.putL l) s' ∧ s'.1 = s.1
  | [], l, s, _ => ⟨s, rfl, rfl⟩
  | (q, third) :: ps, l, s, h => by
    obtain ⟨wq, zq⟩ := h _ List.mem_cons_self
    have hl := fun x hx => isVar_leaf (hσ x hx)
    have wx : Ob.wt (Sp.arOf E) (Ob.sbM σ false q) := (sb_wt false q wq (fun x hx => Ob.wt_leaf (hl x hx.2))).1
    have zx : (Ob.sbM σ false q).sz ≤ 118 := by
      have := sz_sb hl false q
      unfold Ob.sz at zq ⊢
      rw [this]; exact zq
    have hr : ∃ r, r = Ob.sbM σ false (rulQ (q, third)) ∧ Ob.wt (Sp.arOf E) r ∧ r.sz ≤ 119 ∧ ∀ s, ∃ s', (if third then Sp.mkNot (Ob.sbM σ false q) else Sp.ret (Ob.sbM σ false q)) s = .ok r s' ∧ s'.1 = s.1 := by
      cases third with
      | false => exact ⟨_, rfl, wx, by show (Ob.sbM σ false q).sz ≤ _; omega, fun s => ⟨s, rfl, rfl⟩⟩
      | true =>
        have e : Ob.sbM σ false (rulQ (q, true)) = Ob.neg (Ob.sbM σ false q) := sb_neg hσ wq
        have := sz_neg wx
        rw [e]
        exact ⟨_, rfl, wt_neg wx, by omega, fun s => not_ok (by omega) s⟩
    obtain ⟨r, er, wr, zr, hr⟩ := hr
    obtain ⟨s1, f1, g1⟩ := fill_ok (σ := σ) (o := q) (by omega) s
    obtain ⟨s2, f2, g2⟩ := hr s1
    have := sz_neg wr
    obtain ⟨s3, f3, g3⟩ := not_ok (o := r) (by omega) s2
    obtain ⟨s4, f4, g4⟩ := rulers_ok hσ ps (Sp.putL l (Ob.neg r)) s3 (fun q hq => h q (List.mem_cons_of_mem _ hq))
    refine ⟨s4, ?_, by omega⟩
    show Sp.bd (Sp.fill σ q) _ s = _
    rw [bind_ok f1, bind_ok f2, bind_ok f3, f4, er]
    rfl
theorem paths_sz [DecidableEq Ob] {E : Sp.Env} : ∀ (n : Nat) (o : Ob), SizeOf.sizeOf o < n → Ob.wt (Sp.arOf E) o → ∀ p, p ∈ Sp.paths o → (∀ q, q ∈ p.1 → q.1.sz + 3 ≤ o.sz) ∧ p.2.sz ≤ o.sz
  | 0, _, h, _ => by omega
  | n + 1, o, h, w => by
    intro p hp
    by_cases c : o.isCallOf Ob.ifS = true
    · obtain ⟨q, b, d, e, wq, wb, wd⟩ := Ob.wt_three w c ifS_q (arOf_ifS E)
      have hz := sz_if q b d
      have z1 := Ob.sz_pos q
      have z2 := Ob.sz_pos b
      have z3 := Ob.sz_pos d
      rw [e, paths_if] at hp
      rw [e] at h ⊢
      simp at h
      rcases List.mem_append.mp hp with hp | hp
      · obtain ⟨p', hp', rfl⟩ := List.mem_map.mp hp
        have ih := paths_sz n b (by omega) wb p' hp'
        refine ⟨fun q' hq' => ?_, by have := ih.2; show p'.2.sz ≤ _; omega⟩
        rcases List.mem_cons.mp hq' with rfl | hq'
        · show q.sz + 3 ≤ _; omega
        · have := ih.1 q' hq'; omega
      · obtain ⟨p', hp', rfl⟩ := List.mem_map.mp hp
        have ih := paths_sz n d (by omega) wd p' hp'
        refine ⟨fun q' hq' => ?_, by have := ih.2; show p'.2.sz ≤ _; omega⟩
        rcases List.mem_cons.mp hq' with rfl | hq'
        · show q.sz + 3 ≤ _; omega
        · have := ih.1 q' hq'; omega
    · rw [paths_no (by simpa using c)] at hp
      rw [List.mem_singleton.mp hp]
      exact ⟨fun q hq => (by cases hq), Int.le_refl _⟩
