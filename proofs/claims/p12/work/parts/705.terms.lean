-- deps: 704
/-! the class: pairs also when the work has failed; arities, bindings, meanings -/
theorem pc_pairG [DecidableEq Ob] {l r : Int} {Q : Int → iST → Prop} {u : iST} (hT : CT u) (hl : l < u.1 29) (hr : r < u.1 29) (hd : u.1 29 < 160000 ∨ u.1 32 ≠ 0)
    (hq : ∀ k v, CG f8M f8R u v → VN v k → (u.1 29 < 160000 → 0 ≤ l → 0 ≤ r → oc v k = .pr (oc u l) (oc u r)) → v.1 29 ≤ u.1 29 + 1 → Q k v) : pv_11_pairCell l r (fun c u => pv_7_made c Q u) u := by
  have h16 := hT.1.1.2
  have h44 := hT.1.1.1
  have key : ∀ l', 0 ≤ l' → l' < u.1 29 → (0 ≤ l → l' = l) → pv_11_pairCell_12 (fun c u => pv_7_made c Q u) r (-9223372036854775808) l' u := by
    intro l' l0 l1 el
    have fin : ∀ r', 0 ≤ r' → r' < u.1 29 → (0 ≤ r → r' = r) → ∀ c, c = wlor (wlor (-9223372036854775808) (wlshl l' 31)) r' → inL c → pv_7_made c Q u := by
      intro r' r0 r1 er c ec hc
      obtain ⟨q1, q2, q3⟩ := cell_pair l0 (show l' < 2147483648 by omega) r0 (show r' < 2147483648 by omega)
      rw [ec] at hc
      have q4 := cell_pairC l0 (show l' < 2147483648 by omega) r0 (show r' < 2147483648 by omega) hc
      rw [← ec] at q1 q2 q3 q4
      refine pc_madeG hT hd ⟨fun _ => ⟨by rw [q2]; exact l1, by rw [q3]; exact r1, by rw [q2, q3]; exact q4⟩, fun z => by omega⟩ (fun k v g k0 k1 ek hk => hq k v g ⟨k0, k1⟩ (fun z zl zr => ?_) hk)
      have ek := ek z
      rw [oc_pr g.1.1 k0 k1 (by rw [ek]; exact q1), ek, q2, q3, g.oc hT l0 l1, g.oc hT r0 r1, el zl, er zr]
    unfold pv_11_pairCell_12
    intro a ea _ b eb _
    refine ⟨fun h => ?_, fun h => ?_⟩
    · intro c ec hc
      exact fin r h hr (fun _ => rfl) c (by rw [ec, eb, ea]) hc
    · intro c ec hc
      exact fin 0 (Int.le_refl _) (by omega) (fun z => absurd z h) c (by rw [ec, eb, ea]) hc
  unfold pv_11_pairCell
  exact ⟨fun h => key l h hl (fun _ => rfl), fun h => key 0 (Int.le_refl _) (by omega) (fun z => absurd z h)⟩
theorem pc_arityOf [DecidableEq Ob] {f : Int} {Q : Int → iST → Prop} {u : iST} {E : Sp.Env} (hT : CT u) (hD : DOc u E) (hf : VN u f) (hq : Q (Sp.arOf E (oc u f)) u) : pv_0_arityOf f Q u := by
  have h0 := hf.1
  have out : ¬ (3 ≤ f ∧ f ≤ 16) → Sp.arOf E (oc u f) = match E.dfn (oc u f) with | some D => (D.params.length : Int) | none => -1 := by
    intro h
    have nb : Ob.isBase (oc u f) = false := by
      by_cases q : f ≤ 16
      · have hk : f = 0 ∨ f = 1 ∨ f = 2 := by omega
        rcases hk with q | q | q
        · rw [(katC hT 0 (o := Ob.nil) (by decide) (by decide) rfl hf.1 hf.2).mp q]
          unfold Ob.isBase
          simp only [Bool.or_eq_false_iff, decide_eq_false_iff_not]
          refine ⟨⟨⟨⟨⟨⟨⟨⟨⟨⟨⟨⟨⟨?_, ?_⟩, ?_⟩, ?_⟩, ?_⟩, ?_⟩, ?_⟩, ?_⟩, ?_⟩, ?_⟩, ?_⟩, ?_⟩, ?_⟩, ?_⟩ <;> exact Ob.sym_ne (by decide)
        · rw [(katC hT 1 (o := Ob.t) (by decide) (by decide) rfl hf.1 hf.2).mp q]
          unfold Ob.isBase
          simp only [Bool.or_eq_false_iff, decide_eq_false_iff_not]
          refine ⟨⟨⟨⟨⟨⟨⟨⟨⟨⟨⟨⟨⟨?_, ?_⟩, ?_⟩, ?_⟩, ?_⟩, ?_⟩, ?_⟩, ?_⟩, ?_⟩, ?_⟩, ?_⟩, ?_⟩, ?_⟩, ?_⟩ <;> exact Ob.sym_ne (by decide)
        · rw [(katC hT 2 (o := Ob.quote) (by decide) (by decide) rfl hf.1 hf.2).mp q]
          unfold Ob.isBase
          simp only [Bool.or_eq_false_iff, decide_eq_false_iff_not]
          refine ⟨⟨⟨⟨⟨⟨⟨⟨⟨⟨⟨⟨⟨?_, ?_⟩, ?_⟩, ?_⟩, ?_⟩, ?_⟩, ?_⟩, ?_⟩, ?_⟩, ?_⟩, ?_⟩, ?_⟩, ?_⟩, ?_⟩ <;> exact Ob.sym_ne (by decide)
      · refine bf_of (fun z => ?_)
        have := (oc_res hT hf).mp (by unfold Ob.reserved; rw [z, Bool.or_true])
        omega
    have nif : ¬ oc u f = Ob.ifS := fun z => by rw [z] at nb; unfold Ob.isBase at nb; rw [decide_eq_true rfl] at nb; cases nb
    have n2 : ¬ (oc u f = Ob.equal ∨ oc u f = Ob.cons ∨ oc u f = Ob.implies ∨ oc u f = Ob.plus ∨ oc u f = Ob.minus ∨ oc u f = Ob.less) := by
      intro z
      have : Ob.isBase (oc u f) = true := by
        unfold Ob.isBase
        simp only [Bool.or_eq_true, decide_eq_true_eq]
        rcases z with z | z | z | z | z | z <;> rw [z] <;> simp
      rw [this] at nb; cases nb
    unfold Sp.arOf
    rw [if_neg nif, if_neg n2, if_neg (by rw [nb]; decide)]
    cases E.dfn (oc u f) <;> rfl
  have go : ¬ (3 ≤ f ∧ f ≤ 16) → pv_0_arityOf_19 Q f u := by
    intro h
    have ho := out h
    unfold pv_0_arityOf_19
    refine pv_0_arityOf_21_i (fun x1 x2 y => x1 = f ∧ y = u ∧ 0 ≤ x2 ∧ ∀ j, 0 ≤ j → j < x2 → u.2.1 0 j ≠ f) ?_ ⟨rfl, rfl, Int.le_refl _, fun j j0 j1 => by omega⟩
    rintro x1 x2 y ⟨e1, ey, a0, ha⟩
    rw [e1, ey]
    unfold pv_0_arityOf_21b
    intro a ea _
    rw [ea]
    refine ⟨fun hle => ?_, fun hgt => ?_⟩
    · rw [ho, dfn_no hT hD hf (fun j j0 j1 => ha j j0 (by omega))] at hq
      exact hq
    intro _ _ b eb _
    rw [eb]
    refine ⟨fun hne => ?_, fun he => ?_⟩
    · intro _
      refine ⟨rfl, rfl, by omega, fun j j0 j1 => ?_⟩
      by_cases q : j = x2
      · rw [q]; exact hne
      · exact ha j j0 (by omega)
    · intro _ _ c ec _
      have hd := dfn_at hT hD hf a0 (by omega) (Decidable.not_not.mp he) ha
      obtain ⟨_, _, ⟨_, h4, h5, _⟩, _⟩ := hD.2.2 x2 a0 (by omega)
      rw [ho, hd] at hq
      have e : ((dfnC u x2).params.length : Int) = u.2.1 2 x2 := by
        show ((Ob.toList (oc u (u.2.1 1 x2))).length : Int) = _
        rw [toList_len' (by omega), h4]
      have hq : Q ((dfnC u x2).params.length : Int) u := hq
      rw [e] at hq
      rw [ec]
      exact hq
  unfold pv_0_arityOf
  refine ⟨fun h => go (by omega), fun h => ⟨fun h2 => go (by omega), fun h2 => ?_⟩⟩
  intro _ _ _ a ea _
  have hk := hT.2.2.2 f.toNat (by omega)
  rw [show ((f.toNat : Nat) : Int) = f by omega] at hk
  have e1 := arOf_base (E := E) (i := f.toNat) (by omega) (by omega) hk.symm
  have e2 := arBs (f - 3).toNat (by omega)
  have : a = Sp.arOf E (oc u f) := by
    rw [ea, e1, e2]
    by_cases q1 : f = 3
    · have h1 : (f - 3).toNat = 0 := by omega
      have h2 : f.toNat = 3 := by omega
      rw [if_pos h1, if_pos h2]
    · have h1 : ¬ (f - 3).toNat = 0 := by omega
      have h2 : ¬ f.toNat = 3 := by omega
      rw [if_neg h1, if_neg h2]
      by_cases q2 : f ≤ 9
      · have h3 : (f - 3).toNat ≤ 6 := by omega
        have h4 : f.toNat ≤ 9 := by omega
        rw [if_pos h3, if_pos h4]
      · have h3 : ¬ (f - 3).toNat ≤ 6 := by omega
        have h4 : ¬ f.toNat ≤ 9 := by omega
        rw [if_neg h3, if_neg h4]
  rw [this]
  exact hq
/-! bindings -/
def bdL [DecidableEq Ob] (u : iST) : List (Ob × Ob) := (List.range (u.1 39).toNat).map (fun i : Nat => (oc u (u.2.1 35 (i : Int)), oc u (u.2.1 36 (i : Int))))
def BnOk [DecidableEq Ob] (u : iST) : Prop := 0 ≤ u.1 39 ∧ u.1 39 ≤ 256 ∧ ∀ i, 0 ≤ i → i < u.1 39 → VN u (u.2.1 35 i) ∧ VN u (u.2.1 36 i)
theorem BnOk.mono [DecidableEq Ob] {n r : Nat → Bool} {u v : iST} (h : BnOk u) (hT : CT u) (g : CG n r u v) (h39 : v.1 39 = u.1 39) (h35 : v.2.1 35 = u.2.1 35) (h36 : v.2.1 36 = u.2.1 36) : BnOk v ∧ bdL v = bdL u := by
  obtain ⟨h1, h2, h3⟩ := h
  refine ⟨⟨by omega, by omega, fun i i0 i1 => ?_⟩, ?_⟩
  · rw [h35, h36]
    obtain ⟨a, b⟩ := h3 i i0 (by omega)
    exact ⟨a.up g, b.up g⟩
  · unfold bdL
    rw [h39, h35, h36]
    refine List.map_congr_left (fun i hi => ?_)
    have := List.mem_range.mp hi
    obtain ⟨a, b⟩ := h3 (i : Int) (by omega) (by omega)
    rw [g.oc hT a.1 a.2, g.oc hT b.1 b.2]
theorem lk_drop [DecidableEq Ob] {o : Ob} : ∀ (l : List (Ob × Ob)) (k : Nat), (∀ p, p ∈ l.take k → p.1 ≠ o) → Ob.lk l o = Ob.lk (l.drop k) o
  | _, 0, _ => rfl
  | [], k + 1, _ => rfl
  | (x, y) :: l, k + 1, h => by
    have h1 : x ≠ o := h (x, y) List.mem_cons_self
    show (if x = o then some y else Ob.lk l o) = Ob.lk (l.drop k) o
    rw [if_neg h1]
    exact lk_drop l k (fun p hp => h p (List.mem_cons_of_mem _ hp))
theorem pc_standsFor [DecidableEq Ob] {k : Int} {Q : Int → iST → Prop} {u : iST} (hT : CT u) (hB : BnOk u) (hk : VN u k) (hn : Ob.lk (bdL u) (oc u k) = none → Q (-1) u) (hs : ∀ r, VN u r → Ob.lk (bdL u) (oc u k) = some (oc u r) → Q r u) : pv_10_standsFor k Q u := by
  obtain ⟨b1, b2, b3⟩ := hB
  have hlen : (bdL u).length = (u.1 39).toNat := by unfold bdL; simp
  have tk : ∀ j : Nat, (j : Int) ≤ u.1 39 → (∀ i, 0 ≤ i → i < (j : Int) → u.2.1 35 i ≠ k) → Ob.lk (bdL u) (oc u k) = Ob.lk ((bdL u).drop j) (oc u k) := by
    intro j hj h
    refine lk_drop _ _ (fun p hp => ?_)
    unfold bdL at hp
    rw [← List.map_take, List.take_range] at hp
    obtain ⟨i, hi, e⟩ := List.mem_map.mp hp
    have hi := List.mem_range.mp hi
    rw [← e]
    have hv := (b3 (i : Int) (by omega) (by omega)).1
    exact fun z => h (i : Int) (by omega) (by omega) ((hT.1.inj hv.1 hv.2 hk.1 hk.2).mp z)
  unfold pv_10_standsFor
  refine pv_10_standsFor_2_i (fun x1 x2 y => x1 = k ∧ y = u ∧ 0 ≤ x2 ∧ ∀ i, 0 ≤ i → i < x2 → u.2.1 35 i ≠ k) ?_ ⟨rfl, rfl, Int.le_refl _, fun j j0 j1 => by omega⟩
  rintro x1 x2 y ⟨e1, ey, a0, ha⟩
  rw [e1, ey]
  unfold pv_10_standsFor_2b
  intro a ea _
  rw [ea]
  refine ⟨fun hle => hn ?_, fun hgt => ?_⟩
  · have := tk (u.1 39).toNat (by omega) (fun i i0 i1 => ha i i0 (by omega))
    rw [this, List.drop_eq_nil_of_le (by omega)]
    rfl
  intro _ _ b eb _
  rw [eb]
  refine ⟨fun hne => ?_, fun he => ?_⟩
  · intro _
    refine ⟨rfl, rfl, by omega, fun j j0 j1 => ?_⟩
    by_cases q : j = x2
    · rw [q]; exact hne
    · exact ha j j0 (by omega)
  · intro _ _ c ec _
    have he := Decidable.not_not.mp he
    rw [ec]
    refine hs _ (b3 x2 a0 (by omega)).2 ?_
    have := tk x2.toNat (by omega) (fun i i0 i1 => ha i i0 (by omega))
    rw [this, List.drop_eq_getElem_cons (by omega)]
    have hg : (bdL u)[x2.toNat]'(by omega) = (oc u (u.2.1 35 x2), oc u (u.2.1 36 x2)) := by
      unfold bdL
      rw [List.getElem_map, List.getElem_range, show ((x2.toNat : Nat) : Int) = x2 by omega]
    rw [hg]
    show (if oc u (u.2.1 35 x2) = oc u k then some (oc u (u.2.1 36 x2)) else _) = _
    rw [if_pos (by rw [he])]
/-- what a term becomes as a whole: none: it is none; some none: its terms are rebuilt -/
abbrev Mu := Ob → Option (Option Ob)
def muF [DecidableEq Ob] (l : List (Ob × Ob)) : Mu := fun o => if Ob.isCall o then some none else if Ob.isVar o then some (some (Ob.lkD l o)) else some (some o)
def muP [DecidableEq Ob] (x y : Ob) : Mu := fun o => if o = x then some (some y) else if Ob.isCall o then some none else some (some o)
def muR [DecidableEq Ob] (ar : Ob → Int) : Mu := fun o => match o with
  | .var z => some (some (.var z))
  | .op a b => if a = Ob.quote then (if Ob.isQuoted (.pr a b) then some (some (Ob.constOf (Ob.lft b))) else none) else if ar a = -1 ∨ Ob.len b ≠ ar a then none else some none
/-- the class's answer says the same -/
def MuA [DecidableEq Ob] (u : iST) (μ : Mu) (k : Int) (r : Int) : Prop := (r = -1 ∧ μ (oc u k) = none) ∨ (r = -2 ∧ μ (oc u k) = some none ∧ (oc u k).isPr = true) ∨ (VN u r ∧ μ (oc u k) = some (some (oc u r)))
theorem oc_callPr [DecidableEq Ob] {u : iST} (hT : CT u) {k : Int} (h : VN u k) (hc : (oc u k).isCall = true) : (oc u k).isPr = true := by
  cases e : oc u k with
  | var x => rw [e] at hc; cases hc
  | op a b => rfl
theorem pc_meaningF [DecidableEq Ob] {k : Int} {Q : Int → iST → Prop} {u : iST} (hT : CT u) (hB : BnOk u) (hk : VN u k) (hq : ∀ r, MuA u (muF (bdL u)) k r → Q r u) : pv_10_meaningOf k 1 Q u := by
  unfold pv_10_meaningOf
  refine ⟨fun _ => ?_, fun z => absurd (by decide) z⟩
  unfold pv_10_meaningOf_18
  refine pc_isCall hT hk (fun r hr => ⟨fun h0 => ?_, fun h0 => hq (-2) (Or.inr (Or.inl ⟨rfl, ?_, oc_callPr hT hk (hr.t h0)⟩))⟩)
  rotate_left
  · unfold muF; rw [if_pos (hr.t h0)]
  have nc := hr.f h0
  refine ⟨fun z => absurd rfl z, fun _ => ?_⟩
  refine pc_isVariable hT hk (fun r2 hr2 => ⟨fun h2 => hq k (Or.inr (Or.inr ⟨hk, ?_⟩)), fun h2 => ?_⟩)
  · unfold muF; rw [if_neg (by rw [nc]; decide), if_neg (by rw [hr2.f h2]; decide)]
  have iv := hr2.t h2
  have em : muF (bdL u) (oc u k) = some (some (Ob.lkD (bdL u) (oc u k))) := by unfold muF; rw [if_neg (by rw [nc]; decide), if_pos iv]
  refine pc_standsFor hT hB hk (fun hn => ⟨fun z => absurd rfl z, fun _ => hq k (Or.inr (Or.inr ⟨hk, ?_⟩))⟩) (fun r3 v3 hs => ⟨fun _ => hq r3 (Or.inr (Or.inr ⟨v3, ?_⟩)), fun z => ?_⟩)
  · rw [em]; unfold Ob.lkD; rw [hn]; rfl
  · rw [em]; unfold Ob.lkD; rw [hs]; rfl
  · have := v3.1; have := Decidable.not_not.mp z; omega
theorem pc_meaningP [DecidableEq Ob] {k : Int} {Q : Int → iST → Prop} {u : iST} (hT : CT u) (hk : VN u k) (h40 : VN u (u.1 40)) (h41 : VN u (u.1 41)) (hq : ∀ r, MuA u (muP (oc u (u.1 40)) (oc u (u.1 41))) k r → Q r u) : pv_10_meaningOf k 2 Q u := by
  have go : k ≠ u.1 40 → pv_10_meaningOf_18 Q k 2 u := by
    intro hne
    have hne' : ¬ oc u k = oc u (u.1 40) := fun z => hne ((hT.1.inj hk.1 hk.2 h40.1 h40.2).mp z)
    unfold pv_10_meaningOf_18
    refine pc_isCall hT hk (fun r hr => ⟨fun h0 => ?_, fun h0 => hq (-2) (Or.inr (Or.inl ⟨rfl, ?_, oc_callPr hT hk (hr.t h0)⟩))⟩)
    · refine ⟨fun _ => hq k (Or.inr (Or.inr ⟨hk, ?_⟩)), fun z => absurd (by decide) z⟩
      unfold muP; rw [if_neg hne', if_neg (by rw [hr.f h0]; decide)]
    · unfold muP; rw [if_neg hne', if_pos (hr.t h0)]
  unfold pv_10_meaningOf
  refine ⟨fun z => absurd rfl z, fun _ => ?_⟩
  intro a ea _
  rw [ea]
  refine ⟨fun h => go h, fun h => ?_⟩
  intro b eb _
  rw [eb]
  refine hq _ (Or.inr (Or.inr ⟨h41, ?_⟩))
  unfold muP; rw [if_pos (by rw [Decidable.not_not.mp h])]
/-- the arities that hold while a definition is coming -/
def ArC [DecidableEq Ob] (u : iST) (E : Sp.Env) (ar : Ob → Int) : Prop := (u.1 37 = -1 ∧ ar = Sp.arOf E) ∨ (VN u (u.1 37) ∧ ar = Sp.arC E (oc u (u.1 37)) (u.1 38))
theorem pc_readMeaning [DecidableEq Ob] {k : Int} {Q : Int → iST → Prop} {u : iST} {E : Sp.Env} {ar : Ob → Int} (hT : CT u) (hD : DOc u E) (hA : ArC u E ar) (hk : VN u k) (hq : ∀ r, MuA u (muR ar) k r → Q r u) : pv_10_readMeaning k Q u := by
  unfold pv_10_readMeaning
  refine pc_isPair hT hk (fun r hr => ⟨fun h0 => ?_, fun h0 => hq k (Or.inr (Or.inr ⟨hk, ?_⟩))⟩)
  rotate_left
  · have := hr.f (Decidable.not_not.mp h0)
    cases e : oc u k with
    | var x => rfl
    | op a b => rw [e] at this; cases this
  have hp := hr.t h0
  have hc := (oc_isPr hT hk).mp hp
  obtain ⟨vl, vr, _, _, e⟩ := oc_sides hT hk hc
  have em : muR ar (oc u k) = if oc u (cL (u.2.2 k)) = Ob.quote then (if Ob.isQuoted (oc u k) then some (some (Ob.constOf (Ob.lft (oc u (cR (u.2.2 k)))))) else none) else if ar (oc u (cL (u.2.2 k))) = -1 ∨ Ob.len (oc u (cR (u.2.2 k))) ≠ ar (oc u (cL (u.2.2 k))) then none else some none := by rw [e]; rfl
  refine pc_left hT hk (fun l hl el => ?_)
  have el' : l = cL (u.2.2 k) := (hT.1.inj hl.1 hl.2 vl.1 vl.2).mp (by rw [el, e]; rfl)
  have kq := katC hT 2 (o := Ob.quote) (by decide) (by decide) rfl hl.1 hl.2
  rw [← el'] at em
  refine ⟨fun h2 => ?_, fun h2 => ?_⟩
  · have nq : ¬ oc u l = Ob.quote := fun z => h2 (kq.mpr z)
    rw [if_neg nq] at em
    have fin : ∀ a, a = ar (oc u l) → pv_10_readMeaning_108 Q k a u := by
      intro a ha
      unfold pv_10_readMeaning_108
      refine ⟨fun z => hq (-1) (Or.inl ⟨rfl, ?_⟩), fun z => ?_⟩
      · rw [em, if_pos (Or.inl (by rw [← ha]; exact z))]
      · refine pc_right hT hk (fun b hb eb => pc_lengthOf hT hb ?_)
        have eb' : oc u b = oc u (cR (u.2.2 k)) := by rw [eb, e]; rfl
        rw [eb']
        refine ⟨fun z2 => hq (-1) (Or.inl ⟨rfl, ?_⟩), fun z2 => hq (-2) (Or.inr (Or.inl ⟨rfl, ?_, hp⟩))⟩
        · rw [em, if_pos (Or.inr (by rw [← ha]; exact z2))]
        · rw [em, if_neg (by rintro (q | q); exact z (by rw [ha]; exact q); exact q (by rw [← ha]; exact Decidable.not_not.mp z2))]
    intro a ea _
    rw [ea]
    refine ⟨fun hne => pc_arityOf hT hD hl (fin _ ?_), fun he => ?_⟩
    · rcases hA with ⟨_, q⟩ | ⟨q1, q⟩
      · rw [q]
      · rw [q]; unfold Sp.arC
        rw [if_neg (fun z => hne ((hT.1.inj hl.1 hl.2 q1.1 q1.2).mp z))]
    · have he := Decidable.not_not.mp he
      intro b eb _
      refine fin b ?_
      rcases hA with ⟨q, _⟩ | ⟨q1, q⟩
      · have := hl.1; omega
      · rw [q, eb]; unfold Sp.arC
        rw [if_pos (by rw [he])]
  · have hq2 := kq.mp (Decidable.not_not.mp h2)
    rw [if_pos hq2] at em
    refine pc_valueOf hT hk (fun x hx ex => ?_)
    have ex' : oc u x = Ob.lft (oc u (cR (u.2.2 k))) := by rw [ex, e]; rfl
    have k0 := katC hT 0 (o := Ob.nil) (by decide) (by decide) rfl hx.1 hx.2
    have k1 := katC hT 1 (o := Ob.t) (by decide) (by decide) rfl hx.1 hx.2
    have hx0 := hx.1
    have fin : ∀ y0 : Int, (y0 ≠ 0 ↔ ((oc u x).isNat || decide (oc u x = Ob.nil) || decide (oc u x = Ob.t)) = true) → pv_10_readMeaning_57 Q k x y0 u := by
      intro y0 hy
      unfold pv_10_readMeaning_57
      refine pc_isQuoted hT hk (fun r2 hr2 => ⟨fun z => ⟨fun z2 => hq k (Or.inr (Or.inr ⟨hk, ?_⟩)), fun z2 => hq x (Or.inr (Or.inr ⟨hx, ?_⟩))⟩, fun z => hq (-1) (Or.inl ⟨rfl, ?_⟩)⟩)
      · rw [em, if_pos (hr2.t z), ← ex']
        refine congrArg (fun q => some (some q)) ?_
        unfold Ob.constOf
        rw [if_neg (fun q => (hy.mpr q) z2)]
        have hqd := hr2.t z
        rw [e] at hqd ⊢
        rw [e] at ex
        cases e9 : oc u (cR (u.2.2 k)) with
        | var w => rw [e9] at hqd; cases hqd
        | op w c =>
          rw [e9] at hqd ex'
          have hqd : (decide (oc u (cL (u.2.2 k)) = Ob.quote) && decide (c = Ob.nil)) = true := hqd
          rw [Bool.and_eq_true, decide_eq_true_eq, decide_eq_true_eq] at hqd
          rw [ex', hqd.1, hqd.2]
          rfl
      · rw [em, if_pos (hr2.t z), ← ex']
        refine congrArg (fun q => some (some q)) ?_
        unfold Ob.constOf
        rw [if_pos (hy.mp z2)]
      · rw [em, if_neg (by rw [hr2.f (Decidable.not_not.mp z)]; decide)]
    refine ⟨fun z => ?_, fun z => ?_⟩
    · unfold pv_10_readMeaning_52
      refine fin 1 ⟨fun _ => ?_, fun _ => by decide⟩
      have hk : x = 0 ∨ x = 1 := by omega
      rcases hk with q | q
      · rw [decide_eq_true (k0.mp q), Bool.or_true]; rfl
      · rw [decide_eq_true (k1.mp q), Bool.or_true]
    · have n0 : ¬ oc u x = Ob.nil := fun q => by have := k0.mpr q; omega
      have n1 : ¬ oc u x = Ob.t := fun q => by have := k1.mpr q; omega
      refine pc_isNatural hT hx (fun r3 hr3 => ⟨fun z3 => fin 0 ⟨fun q => absurd rfl q, fun q => ?_⟩, fun z3 => ?_⟩)
      · rw [hr3.f z3, decide_eq_false n0, decide_eq_false n1] at q; cases q
      · unfold pv_10_readMeaning_52
        exact fin 1 ⟨fun _ => by rw [hr3.t z3]; rfl, fun _ => by decide⟩
