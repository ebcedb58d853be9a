-- deps: 703
/-! the class: what was made last is forgotten; STEPS -/
def CHn [DecidableEq Ob] (u : iST) (n : Int) : Prop := (∀ j, 0 ≤ j → j < n → -1 ≤ u.2.1 27 j ∧ u.2.1 27 j < j ∧ (u.2.1 27 j = -1 ∨ cSl (u.2.2 (u.2.1 27 j)) = cSl (u.2.2 j)) ∧ ∀ i, 0 ≤ i → i < j → cSl (u.2.2 i) = cSl (u.2.2 j) → i ≤ u.2.1 27 j) ∧ ∀ h, 0 ≤ h → h < 32768 → -1 ≤ u.2.1 30 h ∧ u.2.1 30 h < n ∧ (u.2.1 30 h = -1 ∨ cSl (u.2.2 (u.2.1 30 h)) = h) ∧ ∀ i, 0 ≤ i → i < n → cSl (u.2.2 i) = h → i ≤ u.2.1 30 h
theorem pc_forget [DecidableEq Ob] {n : Int} {Q : iST → Prop} {u : iST} (hT : CT u) (n0 : 44 ≤ n) (n1 : n ≤ u.1 29) (hq : ∀ v, CT v → v.1 29 = n → CE v u → (∀ k, k ≠ 29 → v.1 k = u.1 k) → (∀ k, k ≠ 30 → v.2.1 k = u.2.1 k) → v.2.2 = u.2.2 → Q v) : pv_7_forget n Q u := by
  have hend : ∀ y : iST, y.1 = u.1 → (∀ k, k ≠ 30 → y.2.1 k = u.2.1 k) → y.2.2 = u.2.2 → CHn y n → pv_7_forget_47 Q n y := by
    intro y y1 yr yc hy
    unfold pv_7_forget_47
    intro a ea _ b eb _ c ec _ w ew
    have ea : a = u.1 29 := by rw [ea, y1]
    have eb : b = n := by
      rw [eb, ea]
      by_cases q : n < u.1 29
      · rw [if_pos q]
      · rw [if_neg q]; omega
    have ec : c = n := by rw [ec, eb, if_pos (by omega)]
    rw [ec] at ew
    have w29 : w.1 29 = n := by rw [ew]; rfl
    have wn : ∀ k, k ≠ 29 → w.1 k = u.1 k := fun k hk => by rw [ew]; exact (if_neg hk).trans (by rw [y1])
    have wr : w.2 = y.2 := by rw [ew]; rfl
    have wc : w.2.2 = u.2.2 := by rw [wr, yc]
    have hE : CE w u := ⟨by omega, fun k _ _ => by rw [wc]⟩
    have eo : ∀ k, oc w k = oc u k := oc_same wc
    obtain ⟨hI, hH, hS⟩ := hT
    refine hq w ⟨⟨⟨by omega, by have := hI.1.2; omega⟩, fun k k0 k1 => by rw [wc]; exact hI.2.1 k k0 (by omega), fun i j i0 ij j1 => by rw [wc]; exact hI.2.2 i j i0 ij (by omega)⟩, ?_, fun k k0 k1 => ?_, fun i hi => by rw [eo]; exact hS.2 i hi⟩ w29 hE wn (fun k hk => by rw [wr, yr k hk]) wc
    · unfold CH
      rw [w29, wr]
      exact hy
    · rw [eo, wr, yr 29 (by decide), yr 28 (by decide)]
      exact hS.1 k k0 (by omega)
  unfold pv_7_forget
  intro a ea _ _
  rw [ea]
  refine pv_7_forget_7_i (fun x1 x2 y => x1 = n ∧ n ≤ x2 + 1 ∧ x2 < u.1 29 ∧ y.1 = u.1 ∧ (∀ k, k ≠ 30 → y.2.1 k = u.2.1 k) ∧ y.2.2 = u.2.2 ∧ CHn y (x2 + 1)) ?_ ⟨rfl, by omega, by omega, rfl, fun _ _ => rfl, rfl, by rw [show u.1 29 - 1 + 1 = u.1 29 by omega]; exact hT.2.1⟩
  rintro x1 x2 y ⟨e1, a0, a1, y1, yr, yc, hy⟩
  rw [e1]
  unfold pv_7_forget_7b
  refine ⟨fun h => hend y y1 yr yc (by rw [show n = x2 + 1 by omega]; exact hy), fun h => ⟨fun h2 => by omega, fun h2 => ?_⟩⟩
  intro _ _ c ec _ d ed _ e ee _ f ef _ _ _ g eg _ _ _ w ew _
  have ef : f = cSl (u.2.2 x2) := by rw [ef, ee, ed, ec, yc]; rfl
  have eg : g = u.2.1 27 x2 := by rw [eg, yr 27 (by decide)]
  have hsl := cSl_r (u.2.2 x2)
  have w1 : w.1 = u.1 := by rw [ew]; exact y1
  have wc : w.2.2 = u.2.2 := by rw [ew]; exact yc
  have w30 : ∀ j, w.2.1 30 j = if j = cSl (u.2.2 x2) then u.2.1 27 x2 else y.2.1 30 j := fun j => by rw [ew, ef, eg]; rfl
  have wr : ∀ k, k ≠ 30 → w.2.1 k = u.2.1 k := fun k hk => by rw [ew]; exact (if_neg hk).trans (yr k hk)
  refine ⟨rfl, by omega, by omega, w1, wr, wc, ?_⟩
  rw [show x2 + -1 + 1 = x2 by omega]
  unfold CHn at hy
  rw [yc, yr 27 (by decide)] at hy
  unfold CHn
  rw [wc, wr 27 (by decide)]
  refine ⟨fun j j0 j1 => hy.1 j j0 (by omega), fun h h0 h1 => ?_⟩
  obtain ⟨b1, b2, b3, b4⟩ := hy.2 h h0 h1
  obtain ⟨c1, c2, c3, c4⟩ := hy.1 x2 (by omega) (by omega)
  rw [w30]
  by_cases q : h = cSl (u.2.2 x2)
  · rw [if_pos q]
    exact ⟨c1, c2, c3.imp id (fun z => by rw [q]; exact z), fun i i0 i1 hi => c4 i i0 i1 (by rw [hi]; exact q)⟩
  · rw [if_neg q]
    refine ⟨b1, ?_, b3, fun i i0 i1 hi => b4 i i0 (by omega) hi⟩
    rcases b3 with z | z
    · omega
    · have : y.2.1 30 h ≠ x2 := fun z2 => q (by rw [← z, z2])
      omega
/-- STEPS left -/
def StC [DecidableEq Ob] (u : iST) (s : Sp.Wk) : Prop := u.1 31 + (s.1 : Int) = u.1 30
theorem CT_same [DecidableEq Ob] {u v : iST} (h : CT u) (h29 : v.1 29 = u.1 29) (hr : ∀ k, 27 ≤ k → k ≤ 30 → v.2.1 k = u.2.1 k) (hc : v.2.2 = u.2.2) : CT v ∧ CE u v := by
  obtain ⟨hI, hH, hS⟩ := h
  have eo : ∀ k, oc v k = oc u k := oc_same hc
  refine ⟨⟨⟨by rw [h29]; exact hI.1, by rw [h29, hc]; exact hI.2.1, by rw [h29, hc]; exact hI.2.2⟩, ?_, fun k k0 k1 => ?_, fun i hi => by rw [eo]; exact hS.2 i hi⟩, by omega, fun k _ _ => by rw [hc]⟩
  · unfold CH
    rw [h29, hc, hr 27 (by decide) (by decide), hr 30 (by decide) (by decide)]
    exact hH
  · rw [eo, hr 28 (by decide) (by decide), hr 29 (by decide) (by decide)]
    exact hS.1 k k0 (by omega)
/-- a number, a row is written -/
theorem CG_I [DecidableEq Ob] {n r : Nat → Bool} {u : iST} {k : Nat} {x : Int} (h : CT u) (hk : k ≠ 29) (hn : n k = true) : CG n r u (iI u k x) := by
  obtain ⟨a, b⟩ := CT_same (v := iI u k x) h (if_neg (fun z => hk z.symm)) (fun _ _ _ => rfl) rfl
  exact ⟨a, b, fun j hj => if_neg (fun e => by rw [e, hn] at hj; cases hj), fun _ _ => rfl⟩
theorem CG_A [DecidableEq Ob] {n r : Nat → Bool} {u : iST} {k : Nat} {i x : Int} (h : CT u) (hk : k < 27 ∨ 30 < k) (hr : r k = true) : CG n r u (iA u k i x) := by
  obtain ⟨a, b⟩ := CT_same (v := iA u k i x) h rfl (fun j h1 h2 => if_neg (by omega)) rfl
  exact ⟨a, b, fun _ _ => rfl, fun j hj => if_neg (fun e => by rw [e, hr] at hj; cases hj)⟩
def f8S (k : Nat) : Bool := decide (31 ≤ k ∧ k ≤ 32)
def f80 (_ : Nat) : Bool := false
def f8T (k : Nat) : Bool := decide (k = 32)
theorem pc_step [DecidableEq Ob] {Q : Int → iST → Prop} {u : iST} {s : Sp.Wk} (hT : CT u) (hs : StC u s)
    (hok : ∀ v, CG f8S f80 u v → v.1 32 = u.1 32 → s.1 ≠ 0 → Sp.tick s = .ok () (s.1 - 1, s.2) → StC v (s.1 - 1, s.2) → Q 1 v) (hno : ∀ v, CG f8S f80 u v → v.1 32 ≠ 0 → s.1 = 0 → Sp.tick s = .error () s → StC v s → Q 0 v) : pv_7_step Q u := by
  unfold StC at hs
  unfold pv_7_step
  intro a ea _ b eb _
  rw [ea, eb]
  refine ⟨fun hlt => ?_, fun hge => ?_⟩
  · intro c ec _ _ v ev _
    rw [ec] at ev
    have s0 : s.1 ≠ 0 := fun z => by omega
    refine hok v (by rw [ev]; exact CG_I hT (by decide) (by decide)) (by rw [ev]; rfl) s0 (if_neg s0) ?_
    unfold StC
    rw [ev]
    show u.1 31 + 1 + ((s.1 - 1 : Nat) : Int) = u.1 30
    omega
  · have s0 : s.1 = 0 := by omega
    intro c ec _
    rw [ec]
    have fin : ∀ x, x ≠ 0 → pv_7_step_27 Q x u := fun x hx => by
      unfold pv_7_step_27
      intro v ev _
      exact hno v (by rw [ev]; exact CG_I hT (by decide) (by decide)) (by rw [ev]; exact hx) s0 (if_pos s0) (by unfold StC; rw [ev]; exact hs)
    refine ⟨fun h => ?_, fun h => fin 1 (by decide)⟩
    intro d ed _
    rw [ed]
    exact fin _ h
theorem pc_blame [DecidableEq Ob] {x : Int} {Q : iST → Prop} {u : iST} (hT : CT u) (hx : x ≠ 0) (hq : ∀ v, CG f8T f80 u v → v.1 32 ≠ 0 → Q v) : pv_7_blame x Q u := by
  unfold pv_7_blame
  intro a ea _
  rw [ea]
  refine ⟨fun h => hq u (CG.rf hT) h, fun h => ?_⟩
  intro v ev
  exact hq v (by rw [ev]; exact CG_I hT (by decide) (by decide)) (by rw [ev]; exact hx)
theorem f80_any [DecidableEq Ob] {r : Nat → Bool} : ∀ k, r k = false → f80 k = false := fun _ _ => rfl
/-! definitions as the class has them -/
def dfnC [DecidableEq Ob] (u : iST) (d : Int) : Sp.Dfn := (oc u (u.2.1 0 d), Ob.toList (oc u (u.2.1 1 d)), oc u (u.2.1 3 d), if u.2.1 4 d = -1 then none else some (oc u (u.2.1 4 d)))
def dfsC [DecidableEq Ob] (u : iST) : List Sp.Dfn := (List.range (u.1 0).toNat).map (fun i : Nat => dfnC u (i : Int))
def D1c [DecidableEq Ob] (u : iST) (d : Int) : Prop := VN u (u.2.1 0 d) ∧ (oc u (u.2.1 0 d)).isName = true ∧ (VN u (u.2.1 1 d) ∧ (oc u (u.2.1 1 d)).len = u.2.1 2 d ∧ 0 ≤ u.2.1 2 d ∧ u.2.1 2 d ≤ 6) ∧ VN u (u.2.1 3 d) ∧ (u.2.1 4 d ≠ -1 → VN u (u.2.1 4 d))
def DOc [DecidableEq Ob] (u : iST) (E : Sp.Env) : Prop := E.defs = dfsC u ∧ 0 ≤ u.1 0 ∧ ∀ d, 0 ≤ d → d < u.1 0 → D1c u d
theorem D1c.mono [DecidableEq Ob] {n r : Nat → Bool} {u v : iST} {d : Int} (h : D1c u d) (hT : CT u) (g : CG n r u v) (hr : ∀ k, k ≤ 4 → v.2.1 k = u.2.1 k) : D1c v d ∧ dfnC v d = dfnC u d := by
  obtain ⟨h1, h2, ⟨h3, h4, h5, h6⟩, h7, h8⟩ := h
  unfold D1c dfnC
  rw [hr 0 (by decide), hr 1 (by decide), hr 2 (by decide), hr 3 (by decide), hr 4 (by decide), g.oc hT h1.1 h1.2, g.oc hT h3.1 h3.2, g.oc hT h7.1 h7.2]
  refine ⟨⟨h1.up g, h2, ⟨h3.up g, h4, h5, h6⟩, h7.up g, fun z => (h8 z).up g⟩, ?_⟩
  by_cases q : u.2.1 4 d = -1
  · rw [if_pos q, if_pos q]
  · rw [if_neg q, if_neg q, g.oc hT (h8 q).1 (h8 q).2]
theorem DOc.mono [DecidableEq Ob] {n r : Nat → Bool} {u v : iST} {E : Sp.Env} (h : DOc u E) (hT : CT u) (g : CG n r u v) (h0 : v.1 0 = u.1 0) (hr : ∀ k, k ≤ 4 → v.2.1 k = u.2.1 k) : DOc v E := by
  obtain ⟨h1, h2, h3⟩ := h
  refine ⟨?_, by rw [h0]; exact h2, fun d d0 d1 => ((h3 d d0 (by omega)).mono hT g hr).1⟩
  rw [h1]
  unfold dfsC
  rw [h0]
  refine (List.map_congr_left (fun i hi => ?_)).symm
  have := List.mem_range.mp hi
  exact ((h3 (i : Int) (by omega) (by omega)).mono hT g hr).2
theorem dfsC_find [DecidableEq Ob] {u : iST} {E : Sp.Env} (hT : CT u) (hD : DOc u E) {f : Int} (hf : VN u f) (k : Nat) (hk : (k : Int) ≤ u.1 0) (hn : ∀ j, 0 ≤ j → j < (k : Int) → u.2.1 0 j ≠ f) : ((dfsC u).take k).find? (fun d => decide (d.name = oc u f)) = none := by
  rw [List.find?_eq_none]
  intro x hx
  unfold dfsC at hx
  rw [← List.map_take, List.take_range] at hx
  obtain ⟨i, hi, e⟩ := List.mem_map.mp hx
  have hi := List.mem_range.mp hi
  have hd := (hD.2.2 (i : Int) (by omega) (by omega)).1
  rw [← e]
  intro z
  exact hn (i : Int) (by omega) (by omega) ((hT.1.inj hd.1 hd.2 hf.1 hf.2).mp (of_decide_eq_true z))
theorem dfsC_get [DecidableEq Ob] {u : iST} {k : Nat} (hk : (k : Int) < u.1 0) : (dfsC u)[k]? = some (dfnC u (k : Int)) := by
  unfold dfsC
  rw [List.getElem?_map, List.getElem?_range (by omega)]
  rfl
theorem dfn_at [DecidableEq Ob] {u : iST} {E : Sp.Env} (hT : CT u) (hD : DOc u E) {f d : Int} (hf : VN u f) (d0 : 0 ≤ d) (d1 : d < u.1 0) (hd : u.2.1 0 d = f) (hn : ∀ j, 0 ≤ j → j < d → u.2.1 0 j ≠ f) : E.dfn (oc u f) = some (dfnC u d) := by
  unfold Sp.Env.dfn
  rw [hD.1]
  have e : dfsC u = (dfsC u).take d.toNat ++ (dfnC u d :: (dfsC u).drop (d.toNat + 1)) := by
    have hl : d.toNat < (dfsC u).length := by unfold dfsC; rw [List.length_map, List.length_range]; omega
    have := dfsC_get (u := u) (k := d.toNat) (by omega)
    rw [List.getElem?_eq_getElem hl, show ((d.toNat : Nat) : Int) = d by omega] at this
    rw [← Option.some.inj this, List.getElem_cons_drop, List.take_append_drop]
  rw [e, List.find?_append, dfsC_find hT hD hf d.toNat (by omega) (fun j j0 j1 => hn j j0 (by omega)), Option.none_or, List.find?_cons_of_pos]
  exact decide_eq_true (by show oc u (u.2.1 0 d) = oc u f; rw [hd])
theorem dfn_no [DecidableEq Ob] {u : iST} {E : Sp.Env} (hT : CT u) (hD : DOc u E) {f : Int} (hf : VN u f) (hn : ∀ j, 0 ≤ j → j < u.1 0 → u.2.1 0 j ≠ f) : E.dfn (oc u f) = none := by
  have h0 := hD.2.1
  have := dfsC_find hT hD hf (u.1 0).toNat (by omega) (fun j j0 j1 => hn j j0 (by omega))
  rw [List.take_of_length_le (by unfold dfsC; rw [List.length_map, List.length_range]; exact Nat.le_refl _)] at this
  unfold Sp.Env.dfn
  rw [hD.1]
  exact this
theorem pc_functionOf [DecidableEq Ob] {f : Int} {Q : Int → iST → Prop} {u : iST} {E : Sp.Env} (hT : CT u) (hD : DOc u E) (hf : VN u f) (hn : E.dfn (oc u f) = none → Q (-1) u) (hs : ∀ d, 0 ≤ d → d < u.1 0 → u.2.1 0 d = f → E.dfn (oc u f) = some (dfnC u d) → Q d u) : pv_0_functionOf f Q u := by
  unfold pv_0_functionOf
  refine pv_0_functionOf_2_i (fun x1 x2 y => x1 = f ∧ y = u ∧ 0 ≤ x2 ∧ ∀ j, 0 ≤ j → j < x2 → u.2.1 0 j ≠ f) ?_ ⟨rfl, rfl, Int.le_refl _, fun j j0 j1 => by omega⟩
  rintro x1 x2 y ⟨e1, ey, a0, ha⟩
  rw [e1, ey]
  unfold pv_0_functionOf_2b
  intro a ea _
  rw [ea]
  refine ⟨fun h => hn (dfn_no hT hD hf (fun j j0 j1 => ha j j0 (by omega))), fun h => ?_⟩
  intro _ _ b eb _
  rw [eb]
  refine ⟨fun hne => ?_, fun he => hs x2 a0 (by omega) (Decidable.not_not.mp he) (dfn_at hT hD hf a0 (by omega) (Decidable.not_not.mp he) ha)⟩
  intro _
  refine ⟨rfl, rfl, by omega, fun j j0 j1 => ?_⟩
  by_cases q : j = x2
  · rw [q]; exact hne
  · exact ha j j0 (by omega)
theorem arBs [DecidableEq Ob] : ∀ i : Nat, i < 14 → yT_BASE_ARITIES.getD i 0 = if i = 0 then 3 else if i ≤ 6 then 2 else 1 := by decide
theorem arOf_base [DecidableEq Ob] {E : Sp.Env} {i : Nat} {o : Ob} (h3 : 3 ≤ i) (h16 : i ≤ 16) (ho : Ob.knownC[i]? = some o) : Sp.arOf E o = if i = 3 then 3 else if i ≤ 9 then 2 else 1 := by
  have hj : i = 3 ∨ i = 4 ∨ i = 5 ∨ i = 6 ∨ i = 7 ∨ i = 8 ∨ i = 9 ∨ i = 10 ∨ i = 11 ∨ i = 12 ∨ i = 13 ∨ i = 14 ∨ i = 15 ∨ i = 16 := by omega
  have one : ∀ s : List Int, (Ob.sym s ≠ Ob.ifS) → ¬ (Ob.sym s = Ob.equal ∨ Ob.sym s = Ob.cons ∨ Ob.sym s = Ob.implies ∨ Ob.sym s = Ob.plus ∨ Ob.sym s = Ob.minus ∨ Ob.sym s = Ob.less) → Ob.isBase (Ob.sym s) = true → Sp.arOf E (Ob.sym s) = 1 := fun s h1 h2 h4 => by
    unfold Sp.arOf
    rw [if_neg h1, if_neg h2, if_pos h4]
  have two : ∀ s : List Int, (Ob.sym s ≠ Ob.ifS) → (Ob.sym s = Ob.equal ∨ Ob.sym s = Ob.cons ∨ Ob.sym s = Ob.implies ∨ Ob.sym s = Ob.plus ∨ Ob.sym s = Ob.minus ∨ Ob.sym s = Ob.less) → Sp.arOf E (Ob.sym s) = 2 := fun s h1 h2 => by
    unfold Sp.arOf
    rw [if_neg h1, if_pos h2]
  have n2 : ∀ s : List Int, Ob.enc s ≠ Ob.enc [101, 113, 117, 97, 108] → Ob.enc s ≠ Ob.enc [99, 111, 110, 115] → Ob.enc s ≠ Ob.enc [105, 109, 112, 108, 105, 101, 115] → Ob.enc s ≠ Ob.enc [43] → Ob.enc s ≠ Ob.enc [45] → Ob.enc s ≠ Ob.enc [60] → ¬ (Ob.sym s = Ob.equal ∨ Ob.sym s = Ob.cons ∨ Ob.sym s = Ob.implies ∨ Ob.sym s = Ob.plus ∨ Ob.sym s = Ob.minus ∨ Ob.sym s = Ob.less) := fun s a b c d e f => by
    rintro (q | q | q | q | q | q)
    · exact Ob.sym_ne a q
    · exact Ob.sym_ne b q
    · exact Ob.sym_ne c q
    · exact Ob.sym_ne d q
    · exact Ob.sym_ne e q
    · exact Ob.sym_ne f q
  have bs : ∀ o : Ob, (o = Ob.consp ∨ o = Ob.car ∨ o = Ob.cdr ∨ o = Ob.natp ∨ o = Ob.symbolp ∨ o = Ob.not ∨ o = Ob.height) → Ob.isBase o = true := fun o h => by
    unfold Ob.isBase
    simp only [Bool.or_eq_true, decide_eq_true_eq]
    rcases h with h | h | h | h | h | h | h <;> rw [h] <;> simp
  rcases hj with q | q | q | q | q | q | q | q | q | q | q | q | q | q <;> subst q <;> injection ho with ho <;> rw [← ho]
  · unfold Sp.arOf; rw [if_pos rfl]; rfl
  · exact two _ (Ob.sym_ne (by decide)) (Or.inl rfl)
  · exact two _ (Ob.sym_ne (by decide)) (Or.inr (Or.inl rfl))
  · exact two _ (Ob.sym_ne (by decide)) (Or.inr (Or.inr (Or.inl rfl)))
  · exact two _ (Ob.sym_ne (by decide)) (Or.inr (Or.inr (Or.inr (Or.inl rfl))))
  · exact two _ (Ob.sym_ne (by decide)) (Or.inr (Or.inr (Or.inr (Or.inr (Or.inl rfl)))))
  · exact two _ (Ob.sym_ne (by decide)) (Or.inr (Or.inr (Or.inr (Or.inr (Or.inr rfl)))))
  · exact one _ (Ob.sym_ne (by decide)) (n2 _ (by decide) (by decide) (by decide) (by decide) (by decide) (by decide)) (bs _ (Or.inl rfl))
  · exact one _ (Ob.sym_ne (by decide)) (n2 _ (by decide) (by decide) (by decide) (by decide) (by decide) (by decide)) (bs _ (Or.inr (Or.inl rfl)))
  · exact one _ (Ob.sym_ne (by decide)) (n2 _ (by decide) (by decide) (by decide) (by decide) (by decide) (by decide)) (bs _ (Or.inr (Or.inr (Or.inl rfl))))
  · exact one _ (Ob.sym_ne (by decide)) (n2 _ (by decide) (by decide) (by decide) (by decide) (by decide) (by decide)) (bs _ (Or.inr (Or.inr (Or.inr (Or.inl rfl)))))
  · exact one _ (Ob.sym_ne (by decide)) (n2 _ (by decide) (by decide) (by decide) (by decide) (by decide) (by decide)) (bs _ (Or.inr (Or.inr (Or.inr (Or.inr (Or.inl rfl))))))
  · exact one _ (Ob.sym_ne (by decide)) (n2 _ (by decide) (by decide) (by decide) (by decide) (by decide) (by decide)) (bs _ (Or.inr (Or.inr (Or.inr (Or.inr (Or.inr (Or.inr rfl)))))))
  · exact one _ (Ob.sym_ne (by decide)) (n2 _ (by decide) (by decide) (by decide) (by decide) (by decide) (by decide)) (bs _ (Or.inr (Or.inr (Or.inr (Or.inr (Or.inr (Or.inl rfl)))))))
