-- deps: 479
/-! the reference: its theorems; definitions unfolded -/
def hypL [DecidableEq Ob] (u : iST) (r : Int) : List Ob := (List.range (u.2.1 48 r).toNat).map (fun i : Nat => ob u (u.2.1 49 (120 * r + (i : Int))))
def thm1 [DecidableEq Ob] (u : iST) (r : Int) : Sp.Thm := (ob u (u.2.1 43 r), ob u (u.2.1 44 r), u.2.1 45 r, if u.2.1 46 r = -1 then none else some (ob u (u.2.1 46 r), ob u (u.2.1 47 r), hypL u r, decide (u.2.1 51 r ≠ 0), decide (u.2.1 50 r ≠ 0), decide (u.2.1 52 r ≠ 0)))
def thmsL [DecidableEq Ob] (u : iST) : List Sp.Thm := (List.range (u.1 42).toNat).map (fun i : Nat => thm1 u (i : Int))
/-- a theorem as it stands -/
def Th1 [DecidableEq Ob] (u : iST) (E : Sp.Env) (r : Int) : Prop := (0 ≤ u.2.1 43 r ∧ u.2.1 43 r < u.1 8) ∧ (0 ≤ u.2.1 44 r ∧ u.2.1 44 r < u.1 8) ∧ (u.2.1 46 r ≠ -1 → Nd u E (u.2.1 46 r) ∧ ((ob u (u.2.1 46 r)).isCall = true ∧ (ob u (u.2.1 46 r)).sz ≤ 120) ∧ Nd u E (u.2.1 47 r) ∧ 0 ≤ u.2.1 48 r ∧ (∀ x, vr false (ob u (u.2.1 47 r)) x → vr false (ob u (u.2.1 46 r)) x) ∧ ∀ i, 0 ≤ i → i < u.2.1 48 r → Nd u E (u.2.1 49 (120 * r + i)) ∧ ∀ x, vr false (ob u (u.2.1 49 (120 * r + i))) x → vr false (ob u (u.2.1 46 r)) x)
def TOk [DecidableEq Ob] (u : iST) (E : Sp.Env) : Prop := E.thms = thmsL u ∧ 0 ≤ u.1 42 ∧ (∀ r, 0 ≤ r → r < u.1 42 → Th1 u E r) ∧ ∀ r, 0 ≤ r → r < u.1 42 → (u.2.1 53 r ≠ 0 ↔ Ob.has E.muted (ob u (u.2.1 43 r)) = true)
/-- fields of the theorems are as they were -/
def TSm [DecidableEq Ob] (u v : iST) : Prop := v.1 42 = u.1 42 ∧ ∀ k, 43 ≤ k → k ≤ 53 → v.2.1 k = u.2.1 k
theorem Th1.mono [DecidableEq Ob] {n : Nat → Bool} {u v : iST} {E : Sp.Env} (hT : TI u) (hG : GZ n u v) (hS : TSm u v) {r : Int} (h : Th1 u E r) : Th1 v E r ∧ thm1 v r = thm1 u r := by
  obtain ⟨s0, s⟩ := hS
  obtain ⟨⟨a1, a2⟩, ⟨b1, b2⟩, c⟩ := h
  have hl := hG.le
  have e43 := s 43 (by decide) (by decide)
  have e44 := s 44 (by decide) (by decide)
  have e45 := s 45 (by decide) (by decide)
  have e46 := s 46 (by decide) (by decide)
  have e47 := s 47 (by decide) (by decide)
  have e48 := s 48 (by decide) (by decide)
  have e49 := s 49 (by decide) (by decide)
  have e50 := s 50 (by decide) (by decide)
  have e51 := s 51 (by decide) (by decide)
  have e52 := s 52 (by decide) (by decide)
  constructor
  · refine ⟨⟨by rw [e43]; exact a1, by rw [e43]; omega⟩, ⟨by rw [e44]; exact b1, by rw [e44]; omega⟩, fun z => ?_⟩
    rw [e46] at z
    obtain ⟨c1, c2, c3, c4, c5, c6⟩ := c z
    rw [e46, e47, e48, e49, (c1.mono hT hG).2, (c3.mono hT hG).2]
    refine ⟨(c1.mono hT hG).1, c2, (c3.mono hT hG).1, c4, c5, fun i i0 i1 => ?_⟩
    obtain ⟨d1, d2⟩ := c6 i i0 i1
    rw [(d1.mono hT hG).2]
    exact ⟨(d1.mono hT hG).1, d2⟩
  · unfold thm1
    rw [e43, e44, e45, e46, e47, e50, e51, e52, hG.ob hT a1 a2, hG.ob hT b1 b2]
    by_cases z : u.2.1 46 r = -1
    · rw [if_pos z, if_pos z]
    · obtain ⟨c1, c2, c3, c4, c5, c6⟩ := c z
      have eh : hypL v r = hypL u r := by
        unfold hypL
        rw [e48, e49]
        refine List.map_congr_left (fun i hi => ?_)
        have hi := List.mem_range.mp hi
        exact ((c6 i (by omega) (by omega)).1.mono hT hG).2
      rw [if_neg z, if_neg z, (c1.mono hT hG).2, (c3.mono hT hG).2, eh]
theorem TOk.mono [DecidableEq Ob] {n : Nat → Bool} {u v : iST} {E : Sp.Env} (h : TOk u E) (hT : TI u) (hG : GZ n u v) (hS : TSm u v) : TOk v E := by
  obtain ⟨h1, h2, h3, h4⟩ := h
  refine ⟨?_, by rw [hS.1]; exact h2, fun r r0 r1 => ((h3 r r0 (by rw [← hS.1]; exact r1)).mono hT hG hS).1, fun r r0 r1 => ?_⟩
  · rw [h1]
    unfold thmsL
    rw [hS.1]
    refine List.map_congr_left (fun i hi => ?_)
    have hi := List.mem_range.mp hi
    exact ((h3 i (by omega) (by omega)).mono hT hG hS).2.symm
  · rw [hS.1] at r1
    obtain ⟨a1, a2⟩ := (h3 r r0 r1).1
    rw [hS.2 53 (by decide) (by decide), hS.2 43 (by decide) (by decide), hG.ob hT a1 a2]
    exact h4 r r0 r1
/-- all that rewriting needs of a house -/
def EnvS [DecidableEq Ob] (u : iST) (E : Sp.Env) : Prop := DOk u E ∧ u.1 57 = -1 ∧ Sp.DWf E ∧ TOk u E
theorem f7J_mid [DecidableEq Ob] : ∀ k, 23 ≤ k → k ≤ 59 → f7J k = false := by
  intro k h1 h2
  unfold f7J
  simp only [Bool.or_eq_false_iff, decide_eq_false_iff_not]
  omega
theorem EnvS.mono [DecidableEq Ob] {u v : iST} {E : Sp.Env} (h : EnvS u E) (hT : TI u) (hG : GZ f7J u v) : EnvS v E := by
  obtain ⟨h1, h2, h3, h4⟩ := h
  refine ⟨h1.mono hT hG (DSm.of hG.2.2.2.2 (by decide) (by decide) (by decide) (by decide) (by decide) (by decide) (by decide)), (hG.2.2.2.2 57 (by decide)).1.trans h2, h3, h4.mono hT hG ⟨(hG.2.2.2.2 42 (by decide)).1, fun k k0 k1 => (hG.2.2.2.2 k (f7J_mid k (by omega) (by omega))).2⟩⟩
theorem sb_wt [DecidableEq Ob] {ar : Ob → Int} {s : Ob → Ob} : ∀ (m : Bool) (o : Ob), Ob.wtM ar m o → (∀ x, vr m o x → Ob.wt ar (s x)) → Ob.wtM ar m (Ob.sbM s m o) ∧ (m = true → (Ob.sbM s m o).len = o.len)
  | true, .op a b, h, hs => by
    have h1 := sb_wt false a h.1 (fun x hx => hs x (vr_row.mpr (Or.inl hx)))
    have h2 := sb_wt true b h.2 (fun x hx => hs x (vr_row.mpr (Or.inr hx)))
    rw [show Ob.sbM s true (.op a b) = _ from sb_row s a b]
    refine ⟨⟨h1.1, h2.1⟩, fun _ => ?_⟩
    rw [Ob.len_pr, h2.2 rfl]
    rfl
  | true, .var x, h, _ => ⟨h, fun _ => rfl⟩
  | false, .op a b, h, hs => by
    rw [show Ob.sbM s false (.op a b) = _ from sb_pr s a b]
    refine ⟨?_, fun z => by cases z⟩
    by_cases c : a = Ob.quote
    · rw [if_pos c]; exact h
    · rw [if_neg c]
      obtain ⟨g1, g2, g3⟩ := h.2 c
      have h2 := sb_wt true b g3 (fun x hx => hs x (vr_pr.mpr ⟨c, hx⟩))
      exact ⟨fun z => absurd z c, fun _ => ⟨g1, (h2.2 rfl).trans g2, h2.1⟩⟩
  | false, .var x, h, hs => by
    rw [sb_leaf]
    refine ⟨?_, fun z => by cases z⟩
    by_cases c : Ob.isVar (.var x) = true
    · rw [if_pos c]; exact hs _ (vr_leaf.mpr ⟨rfl, c⟩)
    · rw [if_neg c]; exact h
/-- a term is filled in -/
theorem p_fill [DecidableEq Ob] {a : Int} {Q : Int → iST → Prop} {u : iST} {E : Sp.Env} (hT : TI u) (hU : TU u) (hP : PrOk u) (h71 : 0 ≤ u.1 71) (h61 : u.1 61 = 0) (na : Nd u E a) {σ : Ob → Ob} (hσ : ∀ x, vr false (ob u a) x → Ob.lkD (prs u) x = σ x ∧ Ob.wt (Sp.arOf E) (σ x)) (s : Sp.Wk)
    (hq : ∀ k v, GM u v → Nd v E k → MK (Sp.fill σ (ob u a)) s v k → Q k v) : pw_instance a Q u := by
  refine p_instance hT hU hP na.1 na.2.1 na.2.2.1 h71 (fun k v hG k0 k1 ek tk fk => ?_)
  rw [sb_congr false (ob u a) (fun x hx => (hσ x hx).1)] at ek
  exact hq k v hG ⟨k0, k1, tk, by rw [ek]; exact (sb_wt false _ na.2.2.2 (fun x hx => (hσ x hx).2)).1⟩ (MK_big h61 ek fk)
theorem zip_rng [DecidableEq Ob] {α β : Type} (f : Nat → α) (g : Nat → β) (l : List β) (h : ∀ i, i < l.length → some (g i) = l[i]?) : (List.range l.length).map (fun i => (f i, g i)) = ((List.range l.length).map f).zip l := by
  have e : l = (List.range l.length).map g := by
    refine List.ext_getElem? (fun i => ?_)
    rcases Nat.lt_or_ge i l.length with c | c
    · rw [List.getElem?_map, List.getElem?_range c, ← h i c]; rfl
    · rw [List.getElem?_eq_none c, List.getElem?_eq_none (by simpa using c)]
  have e2 : ((List.range l.length).map f).zip l = ((List.range l.length).map f).zip ((List.range l.length).map g) := by rw [← e]
  rw [e2, List.zip_map']
/-- the body of a definition (0), or a term of it, filled in -/
theorem p_bodyOf [DecidableEq Ob] {k which : Int} {D : Sp.Dfn} {Q : Int → iST → Prop} {u : iST} {E : Sp.Env} (hT : TI u) (hU : TU u) (hE : EnvS u E) (h71 : 0 ≤ u.1 71) (h61 : u.1 61 = 0) (nk : Nd u E k) (hc : (ob u k).isCall = true) (hd : E.dfn (Ob.lft (ob u k)) = some D) (hw : which = 0 ∨ (D.body.isCallOf Ob.ifS = true ∧ 1 ≤ which ∧ which ≤ 3)) (s : Sp.Wk)
    (hq : ∀ x v, GZ f7J u v → v.1 71 = u.1 71 → (∀ n, 75 ≤ n → v.1 n = u.1 n ∧ v.2.1 n = u.2.1 n) → v.1 64 = u.1 64 → v.1 60 = u.1 60 → Nd v E x → MK (Sp.fill (Ob.lkD (D.params.zip (Ob.toList (Ob.rgt (ob u k))))) (if which = 0 then D.body else Ob.item D.body which.toNat)) s v x → Q x v) : pw_bodyOf k which Q u := by
  obtain ⟨hD, h57, hW, hTh⟩ := hE
  obtain ⟨F, l, e, h1, h2, h3, h4⟩ := nk.call hc
  have k0 := nk.1
  have k1 := nk.2.1
  have hF : (ob u k).isCallOf F = true := Ob.isCallOf_iff.mpr ⟨_, e⟩
  obtain ⟨l0, l1, q0, q1, _, _, ep⟩ := ob_lft hT k0 k1 (by rw [e]; rfl)
  have eF : ob u (u.2.1 0 k) = F := by rw [e] at ep; exact (Ob.pr.inj ep).1.symm
  have eL : Ob.lft (ob u k) = F := by rw [e]; rfl
  have el : Ob.toList (Ob.rgt (ob u k)) = l := by rw [e]; exact Ob.toList_ofList l
  rw [eL] at hd
  rw [el] at hq
  unfold pw_bodyOf
  intro _ _ f ef _
  subst ef
  refine p_functionOf (fun rr hrr => ?_)
  have hfn := FnOf_dfn hT hU hD h57 l0 (by omega) hrr
  rw [eF] at hfn
  rcases hfn with ⟨_, z, _⟩ | ⟨_, _, _, z⟩ | ⟨d, d0, d1, d2, d3, d4, d5⟩
  · rw [hd] at z; cases z
  · rw [hd] at z; cases z
  · have eD : D = dfn1 u d := by rw [hd] at d4; exact Option.some.inj d4
    obtain ⟨_, ⟨m1, m2, m3⟩, ⟨c1, c2, c3⟩, _⟩ := hD.2.2 d d0 d1
    obtain ⟨w1, w2⟩ := hW _ (dfn_mem hd).1
    have har : Sp.arOf E F = (D.params.length : Int) := (arOf_ne (E := E) (f := F) (by omega) d5).2 _ hd
    have hlen : (u.2.1 37 d).toNat = l.length := by
      have a : D.params.length = (u.2.1 37 d).toNat := by rw [eD]; show (prm u d).length = _; unfold prm; simp
      omega
    rw [show rr - 100 = d by omega]
    intro _ _ _ y ey _ w ew
    subst ey
    have gw : GZ f7P u w := by subst ew; exact GZ_eq (GZ.rf hT hU) (fun k hk => ⟨if_neg (by omega), rfl⟩) rfl (Fx_I (by decide))
    have w74 : w.1 74 = u.2.1 37 d := by rw [ew]; rfl
    clear ew
    refine pw_bodyOf_27_i (fun x1 x2 x3 x4 v => x1 = k ∧ x2 = which ∧ x3 = d ∧ 0 ≤ x4 ∧ GZ f7P u v ∧ v.1 74 = u.2.1 37 d ∧ ∀ i : Nat, (i : Int) < x4 → i < l.length → v.2.1 72 (i : Int) = u.2.1 38 (6 * d + (i : Int)) ∧ Nd v E (v.2.1 73 (i : Int)) ∧ some (ob v (v.2.1 73 (i : Int))) = l[i]?) ?_ ⟨rfl, rfl, rfl, by omega, gw, w74, fun i hi => by omega⟩
    clear gw w74
    intro x1 x2 x3 x4 v hI
    obtain ⟨e1, e2, e3, i0, gv, v74, hi⟩ := hI
    rw [e1, e2, e3]
    have hTv := gv.1
    have hUv := gv.2.1
    have hlv := gv.le
    have s38 : v.2.1 38 = u.2.1 38 := (gv.2.2.2.2 38 (by decide)).2
    have s39 : v.2.1 39 = u.2.1 39 := (gv.2.2.2.2 39 (by decide)).2
    obtain ⟨nkv, ekv⟩ := nk.mono hT gv
    unfold pw_bodyOf_27b
    intro y ey _
    rw [v74] at ey
    rw [ey]
    refine ⟨fun hc => ?_, fun hc => ?_⟩
    · have ent : ∀ i : Nat, i < l.length → v.2.1 72 (i : Int) = u.2.1 38 (6 * d + (i : Int)) ∧ Nd v E (v.2.1 73 (i : Int)) ∧ some (ob v (v.2.1 73 (i : Int))) = l[i]? := fun i h => hi i (by omega) h
      have hPr : PrOk v := by
        intro i j0 j1
        rw [v74] at j1
        obtain ⟨z1, z2, _⟩ := ent i.toNat (by omega)
        rw [Int.toNat_of_nonneg j0] at z1 z2
        obtain ⟨p1, p2⟩ := m3 i j0 j1
        rw [z1]
        exact ⟨p1, by omega, z2.1, z2.2.1, z2.2.2.1⟩
      have hprs : prs v = D.params.zip l := by
        have eP : D.params = prm u d := by rw [eD]; rfl
        rw [eP]
        unfold prs prm
        rw [v74, hlen]
        have := zip_rng (fun i : Nat => ob v (v.2.1 72 (i : Int))) (fun i : Nat => ob v (v.2.1 73 (i : Int))) l (fun i hi => (ent i hi).2.2)
        rw [this]
        refine congrArg (fun z => List.zip z l) (List.map_congr_left (fun i hi => ?_))
        have hi := List.mem_range.mp hi
        obtain ⟨p1, p2⟩ := m3 (i : Int) (by omega) (by omega)
        rw [(ent i hi).1, gv.ob hT p1 p2]
      have wtv : ∀ x, x ∈ D.params → Ob.wt (Sp.arOf E) (Ob.lkD (D.params.zip l) x) := by
        intro x hx
        obtain ⟨kk, kk1, kk2, kk3⟩ := first_at _ x hx
        have hkl : kk < l.length := by omega
        unfold Ob.lkD
        rw [lk_zip D.params l x l[kk] kk kk2 (List.getElem?_eq_getElem hkl) kk3]
        exact (h4 _ (List.getElem_mem hkl)).1
      have h71v : 0 ≤ v.1 71 := by rw [(gv.2.2.2.2 71 (by decide)).1]; exact h71
      have h61v : v.1 61 = 0 := (gv.2.2.2.2 61 (by decide)).1.trans h61
      have eB : D.body = ob u (u.2.1 39 d) := by rw [eD]; rfl
      have nB : Nd u E (u.2.1 39 d) := ⟨c1, c2, c3, by rw [← eB]; exact w1⟩
      obtain ⟨nBv, eBv⟩ := nB.mono hT gv
      have fill : ∀ b o, Nd v E b → ob v b = o → (∀ x, vr false o x → x ∈ D.params) → o = (if which = 0 then D.body else Ob.item D.body which.toNat) → pw_bodyOf_102 Q b v := by
        intro b o nb eb hvs eo
        unfold pw_bodyOf_102
        refine p_fill hTv hUv hPr h71v h61v nb (σ := Ob.lkD (D.params.zip l)) (fun x hx => ⟨by rw [hprs], wtv x (hvs x (by rw [← eb]; exact hx))⟩) s (fun x z hG nz hm => ?_)
        rw [eb, eo] at hm
        have q : ∀ n, 75 ≤ n → z.1 n = u.1 n ∧ z.2.1 n = u.2.1 n := by
          intro n hn
          have a : f7M n = false := by unfold f7M fI; simp only [Bool.or_eq_false_iff, decide_eq_false_iff_not]; omega
          have b : f7P n = false := by unfold f7P; simp only [decide_eq_false_iff_not]; omega
          exact ⟨((hG.1.2.2.2.2 n a).1).trans (gv.2.2.2.2 n b).1, ((hG.1.2.2.2.2 n a).2).trans (gv.2.2.2.2 n b).2⟩
        exact hq x z ((gv.mono f7P_J).tr (hG.1.mono f7M_J)) (hG.2.1.trans (gv.2.2.2.2 71 (by decide)).1) q ((hG.n 64 (by decide)).trans (gv.2.2.2.2 64 (by decide)).1) ((hG.n 60 (by decide)).trans (gv.2.2.2.2 60 (by decide)).1) nz hm
      have vb : ∀ x, vr false D.body x → x ∈ D.params := fun x hx => w2 x hx.1 hx.2
      refine ⟨fun hz => ?_, fun hz => ?_⟩
      · obtain ⟨g1, g2, g3⟩ := hw.resolve_left hz
        intro _ _ y ey _
        rw [s39] at ey
        rw [ey]
        have hcb : (ob v (u.2.1 39 d)).isCallOf Ob.ifS = true := by rw [eBv, ← eB]; exact g1
        refine p_it hTv nBv hcb ifS_q (arOf_ifS E) g2 g3 (by decide) (fun b nb eb => ?_)
        rw [eBv, ← eB] at eb
        refine fill b _ nb eb (fun x hx => vb x ?_) (if_neg hz).symm
        obtain ⟨o1, o2, o3, eo, _⟩ := Ob.wt_three w1 g1 ifS_q (arOf_ifS E)
        rw [eo] at hx ⊢
        refine vr_pr.mpr ⟨ifS_q, (vr_list [o1, o2, o3]).mpr ?_⟩
        have c : which = 1 ∨ which = 2 ∨ which = 3 := by omega
        rcases c with c | c | c <;> rw [c] at hx
        · exact ⟨o1, by simp, hx⟩
        · exact ⟨o2, by simp, hx⟩
        · exact ⟨o3, by simp, hx⟩
      · have hz := Decidable.not_not.mp hz
        intro _ _ y ey _
        rw [s39] at ey
        rw [ey]
        exact fill _ _ nBv (eBv.trans eB.symm) vb (if_pos hz).symm
    · intro _ _ _ _ y1 ey1 _ _ _ v1 ev1 _
      rw [s38] at ey1
      have g1 : GZ f7P v v1 := by rw [ev1]; exact GZ_eq (GZ.rf hTv hUv) (fun k hk => ⟨rfl, if_neg (by omega)⟩) rfl (Fx_A (by decide))
      obtain ⟨nk1, ek1⟩ := nkv.mono hTv g1
      have r72 : ∀ i, v1.2.1 72 i = if i = x4 then y1 else v.2.1 72 i := fun i => by rw [ev1]; rfl
      have r73 : v1.2.1 73 = v.2.1 73 := by rw [ev1]; rfl
      have n74 : v1.1 74 = v.1 74 := by rw [ev1]; rfl
      clear ev1
      refine p_it g1.1 nk1 (by rw [ek1, ekv]; exact hF) h1 har (by omega) (by omega) (by omega) (fun j nj ej => ?_)
      intro _ _ v2 ev2 _
      have g2 : GZ f7P v1 v2 := by rw [ev2]; exact GZ_eq (GZ.rf g1.1 g1.2.1) (fun k hk => ⟨rfl, if_neg (by omega)⟩) rfl (Fx_A (by decide))
      have q72 : v2.2.1 72 = v1.2.1 72 := by rw [ev2]; rfl
      have q73 : ∀ i, v2.2.1 73 i = if i = x4 then j else v1.2.1 73 i := fun i => by rw [ev2]; rfl
      have q74 : v2.1 74 = v1.1 74 := by rw [ev2]; rfl
      clear ev2
      refine ⟨rfl, rfl, rfl, by omega, (gv.tr g1).tr g2, by rw [q74, n74]; exact v74, fun i hi1 hi2 => ?_⟩
      rw [q72, r72, q73]
      by_cases c : (i : Int) = x4
      · rw [if_pos c, if_pos c]
        refine ⟨by rw [ey1, c], (nj.mono g1.1 g2).1, ?_⟩
        rw [(nj.mono g1.1 g2).2, ej, ek1, ekv, e, show (x4 + 1).toNat = i + 1 by omega, Ob.item_call, List.getD_eq_getElem?_getD, List.getElem?_eq_getElem hi2]
        rfl
      · rw [if_neg c, if_neg c, r73]
        obtain ⟨z1, z2, z3⟩ := hi i (by omega) hi2
        have zz := z2.mono hTv (g1.tr g2)
        exact ⟨z1, zz.1, by rw [zz.2]; exact z3⟩
