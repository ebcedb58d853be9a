-- deps: 700
/-! the class: a node is made -/
def FxC [DecidableEq Ob] (n r : Nat → Bool) (u v : iST) : Prop := (∀ k, n k = false → v.1 k = u.1 k) ∧ ∀ k, r k = false → v.2.1 k = u.2.1 k
theorem FxC.rf [DecidableEq Ob] (n r : Nat → Bool) (u : iST) : FxC n r u u := ⟨fun _ _ => rfl, fun _ _ => rfl⟩
theorem FxC.tr [DecidableEq Ob] {n r : Nat → Bool} {u v w : iST} (h : FxC n r u v) (g : FxC n r v w) : FxC n r u w := ⟨fun k hk => (g.1 k hk).trans (h.1 k hk), fun k hk => (g.2 k hk).trans (h.2 k hk)⟩
theorem FxC.mono [DecidableEq Ob] {n r n' r' : Nat → Bool} {u v : iST} (h : FxC n r u v) (hn : ∀ k, n' k = false → n k = false) (hr : ∀ k, r' k = false → r k = false) : FxC n' r' u v := ⟨fun k hk => h.1 k (hn k hk), fun k hk => h.2 k (hr k hk)⟩
/-- what work leaves: a whole room, more nodes, only these fields changed -/
def CG [DecidableEq Ob] (n r : Nat → Bool) (u v : iST) : Prop := CT v ∧ CE u v ∧ FxC n r u v
theorem CG.rf [DecidableEq Ob] {n r : Nat → Bool} {u : iST} (h : CT u) : CG n r u u := ⟨h, CE.rf u, FxC.rf n r u⟩
theorem CG.tr [DecidableEq Ob] {n r : Nat → Bool} {u v w : iST} (h : CG n r u v) (g : CG n r v w) : CG n r u w := ⟨g.1, h.2.1.tr g.2.1, h.2.2.tr g.2.2⟩
theorem CG.mono [DecidableEq Ob] {n r n' r' : Nat → Bool} {u v : iST} (h : CG n r u v) (hn : ∀ k, n' k = false → n k = false) (hr : ∀ k, r' k = false → r k = false) : CG n' r' u v := ⟨h.1, h.2.1, h.2.2.mono hn hr⟩
theorem CG.le [DecidableEq Ob] {n r : Nat → Bool} {u v : iST} (h : CG n r u v) : u.1 29 ≤ v.1 29 := h.2.1.1
theorem CG.oc [DecidableEq Ob] {n r : Nat → Bool} {u v : iST} (h : CG n r u v) (hT : CT u) {k : Int} (k0 : 0 ≤ k) (k1 : k < u.1 29) : oc v k = oc u k := h.2.1.oc hT.1 k0 k1
def f8M (k : Nat) : Bool := decide (k = 29)
def f8R (k : Nat) : Bool := decide (27 ≤ k ∧ k ≤ 30)
theorem capM_or [DecidableEq Ob] (x : Int) : (x < 1000000 ∧ capM x = x) ∨ (1000000 ≤ x ∧ capM x = 1000000) := by
  unfold capM
  by_cases c : x < 1000000
  · rw [if_pos c]; exact Or.inl ⟨c, rfl⟩
  · rw [if_neg c]; exact Or.inr ⟨by omega, rfl⟩
theorem capM_add [DecidableEq Ob] {x y : Int} (hx : 0 ≤ x) (hy : 0 ≤ y) : capM (1 + capM x + capM y) = capM (1 + x + y) := by
  rcases capM_or x with a | a <;> rcases capM_or y with b | b <;> rcases capM_or (1 + capM x + capM y) with c | c <;> rcases capM_or (1 + x + y) with d | d <;> omega
theorem capM_one [DecidableEq Ob] {y : Int} (hy : 0 ≤ y) : capM (1 + 0 + capM y) = capM (1 + y) := by
  rcases capM_or y with b | b <;> rcases capM_or (1 + 0 + capM y) with c | c <;> rcases capM_or (1 + y) with d | d <;> omega
theorem CellOk.up [DecidableEq Ob] {n m c : Int} (h : CellOk n c) (hm : n ≤ m) : CellOk m c := ⟨fun z => by obtain ⟨a, b, d⟩ := h.1 z; exact ⟨by omega, by omega, d⟩, h.2⟩
/-- one node more -/
theorem CT_new [DecidableEq Ob] {u w : iST} {c s t : Int} (hT : CT u) (hr : u.1 29 < 160000) (ok : CellOk (u.1 29) c) (hn : ∀ i, 0 ≤ i → i < u.1 29 → u.2.2 i ≠ c)
    (w29 : w.1 29 = u.1 29 + 1) (wc : ∀ j, w.2.2 j = if j = u.1 29 then c else u.2.2 j) (w27 : ∀ j, w.2.1 27 j = if j = u.1 29 then u.2.1 30 (cSl c) else u.2.1 27 j) (w30 : ∀ j, w.2.1 30 j = if j = cSl c then u.1 29 else u.2.1 30 j)
    (w28 : ∀ j, w.2.1 28 j = if j = u.1 29 then s else u.2.1 28 j) (w29r : ∀ j, w.2.1 29 j = if j = u.1 29 then t else u.2.1 29 j)
    (hp : c < 0 → t = 1 + (if u.2.1 29 (cL c) ≤ u.2.1 29 (cR c) then u.2.1 29 (cR c) else u.2.1 29 (cL c)) ∧ s = capM (1 + (if u.2.2 (cL c) < 0 ∧ cL (u.2.2 (cL c)) ≠ 2 then u.2.1 28 (cR (u.2.2 (cL c))) else 0) + u.2.1 28 (cR c)))
    (ha : 0 ≤ c → t = 0 ∧ s = 0) : CT w ∧ CE u w := by
  obtain ⟨hI, hH, hS⟩ := hT
  have hE : CE u w := ⟨by omega, fun k k0 k1 => by rw [wc, if_neg (by omega)]⟩
  have h44 := hI.1.1
  have hI' : CIc w := by
    refine ⟨⟨by omega, by omega⟩, fun k k0 k1 => ?_, fun i j i0 ij j1 => ?_⟩
    · rw [wc]
      by_cases q : k = u.1 29
      · rw [if_pos q, q]; exact ok
      · rw [if_neg q]; exact hI.2.1 k k0 (by omega)
    · rw [wc, wc, if_neg (by omega)]
      by_cases q : j = u.1 29
      · rw [if_pos q]; exact hn i i0 (by omega)
      · rw [if_neg q]; exact hI.2.2 i j i0 ij (by omega)
  have hsl := cSl_r c
  have hH' : CH w := by
    refine ⟨fun j j0 j1 => ?_, fun h h0 h1 => ?_⟩
    · by_cases q : j = u.1 29
      · obtain ⟨a1, a2, a3, a4⟩ := hH.2 (cSl c) hsl.1 hsl.2
        rw [w27, wc j, if_pos q, if_pos q]
        refine ⟨a1, by omega, a3.imp id (fun z => by rw [wc, if_neg (by omega)]; exact z), fun i i0 i1 hi => a4 i i0 (by omega) (by rw [wc, if_neg (by omega)] at hi; exact hi)⟩
      · obtain ⟨a1, a2, a3, a4⟩ := hH.1 j j0 (by omega)
        rw [w27, wc j, if_neg q, if_neg q]
        refine ⟨a1, a2, a3.imp id (fun z => by rw [wc, if_neg (by omega)]; exact z), fun i i0 i1 hi => a4 i i0 i1 (by rw [wc, if_neg (by omega)] at hi; exact hi)⟩
    · rw [w30, w29]
      by_cases q : h = cSl c
      · rw [if_pos q, q]
        refine ⟨by omega, by omega, Or.inr (by rw [wc, if_pos rfl]), fun i i0 i1 _ => by omega⟩
      · obtain ⟨a1, a2, a3, a4⟩ := hH.2 h h0 h1
        rw [if_neg q]
        refine ⟨a1, by omega, a3.imp id (fun z => by rw [wc, if_neg (by omega)]; exact z), fun i i0 i1 hi => ?_⟩
        rw [wc] at hi
        by_cases q2 : i = u.1 29
        · rw [if_pos q2] at hi; exact absurd hi.symm q
        · rw [if_neg q2] at hi; exact a4 i i0 (by omega) hi
  have eo : ∀ k, 0 ≤ k → k < u.1 29 → oc w k = oc u k := fun k k0 k1 => hE.oc hI k0 k1
  refine ⟨⟨hI', hH', fun k k0 k1 => ?_, fun i hi => by rw [eo _ (by omega) (by omega)]; exact hS.2 i hi⟩, hE⟩
  by_cases q : k = u.1 29
  · rw [w29r, w28, if_pos q, if_pos q, q]
    have wcell : w.2.2 (u.1 29) = c := by rw [wc, if_pos rfl]
    by_cases hc : c < 0
    · obtain ⟨p1, p2, p3⟩ := ok.1 hc
      obtain ⟨ht, hs⟩ := hp hc
      have l0 := (cL_r c).1
      have r0 := (cR_r c).1
      have e : oc w (u.1 29) = .pr (oc u (cL c)) (oc u (cR c)) := by
        rw [oc_pr hI' (by omega) (by omega) (by rw [wcell]; exact hc), wcell, eo _ l0 p1, eo _ r0 p2]
      have sl := hS.1 (cL c) l0 p1
      have sr := hS.1 (cR c) r0 p2
      rw [e, ht, hs, sl.1, sr.1, sr.2]
      refine ⟨?_, ?_⟩
      · show _ = 1 + (if (oc u (cR c)).hgt < (oc u (cL c)).hgt then (oc u (cL c)).hgt else (oc u (cR c)).hgt)
        split <;> split <;> omega
      · show _ = capM (Ob.szM false (oc u (cL c)) + Ob.szM true (oc u (cR c)))
        have pr := (Ob.szM_pos true (oc u (cR c))).1
        rcases CIc.cases u (cL c) with a | a
        · obtain ⟨t1, t2, t3⟩ := (hI.2.1 (cL c) l0 p1).1 a
          have ll := (cL_r (u.2.2 (cL c))).1
          have lr := (cR_r (u.2.2 (cL c))).1
          have el := oc_pr hI l0 p1 a
          have kq : cL (u.2.2 (cL c)) = 2 ↔ oc u (cL (u.2.2 (cL c))) = Ob.quote := katC ⟨hI, hH, hS⟩ 2 (by decide) (by decide) rfl ll (by omega)
          rw [el]
          show _ = capM ((if oc u (cL (u.2.2 (cL c))) = Ob.quote then 1 else 1 + Ob.szM true (oc u (cR (u.2.2 (cL c))))) + Ob.szM true (oc u (cR c)))
          have pl := (Ob.szM_pos true (oc u (cR (u.2.2 (cL c))))).1
          by_cases q2 : cL (u.2.2 (cL c)) = 2
          · rw [if_neg (fun z => z.2 q2), if_pos (kq.mp q2)]
            exact capM_one pr
          · rw [if_pos ⟨a, q2⟩, if_neg (fun z => q2 (kq.mpr z)), (hS.1 _ lr (by omega)).2]
            exact capM_add pl pr
        · have e1 : Ob.szM false (oc u (cL c)) = 1 := by
            rcases a with a | a
            · rw [oc_nat a.1 a.2]; rfl
            · rw [oc_sym a]; rfl
          rw [if_neg (fun z => by omega), e1]
          exact capM_one pr
    · obtain ⟨ht, hs⟩ := ha (by omega)
      rw [ht, hs]
      have e1 : (oc w (u.1 29)).hgt = 0 ∧ Ob.szM true (oc w (u.1 29)) = 0 := by
        by_cases q2 : c < 4611686018427387904
        · rw [oc_nat (by rw [wcell]; omega) (by rw [wcell]; exact q2)]; exact ⟨rfl, rfl⟩
        · rw [oc_sym (by rw [wcell]; omega)]; exact ⟨rfl, rfl⟩
      rw [e1.1, e1.2]
      exact ⟨rfl, rfl⟩
  · rw [w29r, w28, if_neg q, if_neg q, eo k k0 (by omega)]
    exact hS.1 k k0 (by omega)
theorem pc_madeG [DecidableEq Ob] {c : Int} {Q : Int → iST → Prop} {u : iST} (hT : CT u) (hd : u.1 29 < 160000 ∨ u.1 32 ≠ 0) (ok : CellOk (u.1 29) c)
    (hq : ∀ k v, CG f8M f8R u v → 0 ≤ k → k < v.1 29 → (u.1 29 < 160000 → v.2.2 k = c) → v.1 29 ≤ u.1 29 + 1 → Q k v) : pv_7_made c Q u := by
  have hH := hT.2.1
  have hsl := cSl_r c
  unfold pv_7_made
  intro v1 e1 _ v2 e2 _ v3 e3 _ _ _ v4 e4 _
  have e3 : v3 = cSl c := by rw [e3, e2, e1]; rfl
  rw [e3] at e4 ⊢
  obtain ⟨b1, b2, b3, b4⟩ := hH.2 (cSl c) hsl.1 hsl.2
  refine pv_7_made_18_i (fun x1 x3 x4 y => x1 = c ∧ x3 = cSl c ∧ y = u ∧ x4 < u.1 29 ∧ (0 ≤ x4 → cSl (u.2.2 x4) = cSl c) ∧ ∀ i, 0 ≤ i → i < u.1 29 → u.2.2 i = c → i ≤ x4) ?_ ⟨rfl, rfl, rfl, by omega, fun z => by rw [e4] at z ⊢; exact b3.resolve_left (by omega), fun i i0 i1 hi => by rw [e4]; exact b4 i i0 i1 (by rw [hi])⟩
  rintro x1 x3 x4 y ⟨f1, f3, fy, a1, a2, a3⟩
  rw [f1, f3, fy]
  unfold pv_7_made_18b
  refine ⟨fun hneg => ?_, fun hpos => ?_⟩
  · have hn : ∀ i, 0 ≤ i → i < u.1 29 → u.2.2 i ≠ c := fun i i0 i1 z => by have := a3 i i0 i1 z; omega
    intro n en _
    rw [en]
    refine ⟨fun hr => ?_, fun hr => ?_⟩
    rotate_left
    · have h32 := hd.resolve_left hr
      have full : ∀ x, x = u.1 32 → pv_7_made_75 Q x u := by
        intro x hx
        unfold pv_7_made_75
        intro w ew
        have ew' : w = u := by
          rw [ew, hx]
          show ((fun j => if j = 32 then u.1 32 else u.1 j), u.2) = u
          have : (fun j => if j = 32 then u.1 32 else u.1 j) = u.1 := funext (fun j => by
            by_cases q : j = 32
            · rw [if_pos q, q]
            · rw [if_neg q])
          rw [this]
        rw [ew']
        exact hq 0 u (CG.rf hT) (Int.le_refl _) (by have := hT.1.1.1; omega) (fun z => absurd z hr) (by omega)
      intro a ea _
      rw [ea]
      refine ⟨fun _ => ?_, fun z => absurd h32 z⟩
      intro b eb _
      exact full b eb
    intro n1 en1 _ n2 en2 _ _ y1 ey1 _ _ y2 ey2 _ _ h1 eh1 _ _ _ y3 ey3 _ _ y4 ey4 _ _ y5 ey5 _ _ y6 ey6 c1 ec1 _ c2 ec2 _ c3 ec3 _ c4 ec4 _ c5 ec5 _
    rw [en2] at ey1
    rw [en1] at ey2 ey3 ey4 ey5 ey6 ⊢
    have e12 : c3 = cL c := by rw [ec3, ec2, ec1]; rfl
    have e14 : c5 = cR c := by rw [ec5, ec4]; rfl
    have h30 : h1 = u.2.1 30 (cSl c) := by rw [eh1, ey2, ey1]; rfl
    have y29 : y6.1 29 = u.1 29 + 1 := by rw [ey6, ey5, ey4, ey3, ey2, ey1]; rfl
    have yn : ∀ k, k ≠ 29 → y6.1 k = u.1 k := fun k hk => by rw [ey6, ey5, ey4, ey3, ey2, ey1]; exact if_neg hk
    have yc : ∀ j, y6.2.2 j = if j = u.1 29 then c else u.2.2 j := fun j => by rw [ey6, ey5, ey4, ey3, ey2, ey1]; rfl
    have y27 : ∀ j, y6.2.1 27 j = if j = u.1 29 then u.2.1 30 (cSl c) else u.2.1 27 j := fun j => by rw [ey6, ey5, ey4, ey3, ey2, ey1, h30]; rfl
    have y30 : ∀ j, y6.2.1 30 j = if j = cSl c then u.1 29 else u.2.1 30 j := fun j => by rw [ey6, ey5, ey4, ey3, ey2, ey1]; rfl
    have y28 : ∀ j, y6.2.1 28 j = if j = u.1 29 then 0 else u.2.1 28 j := fun j => by rw [ey6, ey5, ey4, ey3, ey2, ey1]; rfl
    have y29r : ∀ j, y6.2.1 29 j = if j = u.1 29 then 0 else u.2.1 29 j := fun j => by rw [ey6, ey5, ey4, ey3, ey2, ey1]; rfl
    have yr : ∀ k, f8R k = false → y6.2.1 k = u.2.1 k := fun k hk => by
      have := of_decide_eq_false hk
      rw [ey6, ey5, ey4, ey3, ey2, ey1]
      exact (if_neg (by omega)).trans ((if_neg (by omega)).trans ((if_neg (by omega)).trans (if_neg (by omega))))
    clear ey1 ey2 ey3 ey4 ey5 ey6
    have done : ∀ w : iST, (∀ k, k ≠ 29 → w.1 k = u.1 k) → w.1 29 = u.1 29 + 1 → (∀ k, f8R k = false → w.2.1 k = u.2.1 k) → w.2.2 = y6.2.2 → CT w ∧ CE u w → Q (u.1 29) w := by
      intro w wn w29 wr wc hw
      exact hq _ w ⟨hw.1, hw.2, ⟨fun k hk => wn k (of_decide_eq_false hk), wr⟩⟩ (by have := hT.1.1.1; omega) (by omega) (fun _ => by rw [wc, yc, if_pos rfl]) (by omega)
    rw [e12, e14]
    refine ⟨fun hc => ?_, fun hc => ?_⟩
    · exact done y6 yn y29 yr rfl (CT_new hT hr ok hn y29 yc y27 y30 y28 y29r (fun z => by omega) (fun _ => ⟨rfl, rfl⟩))
    have hc : c < 0 := by omega
    obtain ⟨p1, p2, p3⟩ := ok.1 hc
    have l0 := (cL_r c).1
    have r0 := (cR_r c).1
    refine ⟨fun z => by omega, fun _ => ⟨fun z => by omega, fun _ => ?_⟩⟩
    -- heights and sums
    have go : ∀ (g : Int), g = (if u.2.2 (cL c) < 0 ∧ cL (u.2.2 (cL c)) ≠ 2 then u.2.1 28 (cR (u.2.2 (cL c))) else 0) → pv_7_made_235 Q (u.1 29) (cL c) (cR c) 1 g y6 := by
      intro g hg
      unfold pv_7_made_235
      intro _ _ _ s es _ _
      have es : s = u.2.1 28 (cR c) := by rw [es, y28, if_neg (by omega)]
      have fin : ∀ S, S = capM (1 + g + s) → pv_7_made_266 Q (u.1 29) (cL c) (cR c) (u.1 29) S y6 := by
        intro S hS
        unfold pv_7_made_266
        intro _ _ z1 ez1 _ _ p ep _ _ _ q eq _
        have ep : p = u.2.1 29 (cL c) := by rw [ep, ez1]; show y6.2.1 29 (cL c) = _; rw [y29r, if_neg (by omega)]
        have eq : q = u.2.1 29 (cR c) := by rw [eq, ez1]; show y6.2.1 29 (cR c) = _; rw [y29r, if_neg (by omega)]
        have last : ∀ t, t = 1 + (if u.2.1 29 (cL c) ≤ u.2.1 29 (cR c) then u.2.1 29 (cR c) else u.2.1 29 (cL c)) → ∀ z2, z2 = iA z1 29 (u.1 29) t → Q (u.1 29) z2 := by
          intro t ht z2 ez2
          have zn : z2.1 = y6.1 := by rw [ez2, ez1]; rfl
          have zc : z2.2.2 = y6.2.2 := by rw [ez2, ez1]; rfl
          refine done z2 (fun k hk => by rw [zn]; exact yn k hk) (by rw [zn]; exact y29) (fun k hk => ?_) zc (CT_new (s := S) (t := t) hT hr ok hn (by rw [zn]; exact y29) (fun j => by rw [zc]; exact yc j) (fun j => ?_) (fun j => ?_) (fun j => ?_) (fun j => ?_) (fun _ => ⟨ht, by rw [hS, hg, es]⟩) (fun z => by omega))
          · have := of_decide_eq_false hk
            rw [ez2, ez1]
            exact (if_neg (by omega)).trans ((if_neg (by omega)).trans (yr k hk))
          · rw [ez2, ez1]; exact y27 j
          · rw [ez2, ez1]; exact y30 j
          · rw [ez2, ez1]
            show (if j = u.1 29 then S else y6.2.1 28 j) = _
            rw [y28]
            by_cases q : j = u.1 29
            · rw [if_pos q, if_pos q]
            · rw [if_neg q, if_neg q, if_neg q]
          · rw [ez2, ez1]
            show (if j = u.1 29 then t else y6.2.1 29 j) = _
            rw [y29r]
            by_cases q : j = u.1 29
            · rw [if_pos q, if_pos q]
            · rw [if_neg q, if_neg q, if_neg q]
        rw [ep, eq]
        refine ⟨fun hle => ?_, fun hgt => ?_⟩
        · intro _ _ t et _
          have et : t = u.2.1 29 (cR c) := by rw [et, ez1]; show y6.2.1 29 (cR c) = _; rw [y29r, if_neg (by omega)]
          unfold pv_7_made_308
          intro _ _ _ z2 ez2
          exact last _ (by rw [if_pos hle, et]) z2 ez2
        · intro _ _ t et _
          have et : t = u.2.1 29 (cL c) := by rw [et, ez1]; show y6.2.1 29 (cL c) = _; rw [y29r, if_neg (by omega)]
          unfold pv_7_made_308
          intro _ _ _ z2 ez2
          exact last _ (by rw [if_neg hgt, et]) z2 ez2
      refine ⟨fun hbig => fin _ ?_, fun hsm => fin _ ?_⟩
      · unfold capM; rw [if_neg (by omega)]
      · unfold capM; rw [if_pos (by omega)]
    intro _ _ f ef _
    have ef : f = u.2.2 (cL c) := by rw [ef, yc, if_neg (by omega)]
    rw [ef]
    have no : ¬ (u.2.2 (cL c) < 0 ∧ cL (u.2.2 (cL c)) ≠ 2) → pv_7_made_211 Q (u.1 29) (cL c) (cR c) (u.2.2 (cL c)) y6 := fun h => by
      unfold pv_7_made_211 pv_7_made_212
      exact ⟨fun _ => go 0 (by rw [if_neg h]), fun z => absurd rfl z⟩
    refine ⟨fun h0 => no (fun z => by omega), fun h0 => ?_⟩
    intro g1 eg1 _ g2 eg2 _ g3 eg3 _
    have e3' : g3 = cL (u.2.2 (cL c)) := by rw [eg3, eg2, eg1]; rfl
    rw [e3']
    refine ⟨fun h2 => no (fun z => z.2 h2), fun h2 => ?_⟩
    unfold pv_7_made_212
    refine ⟨(fun z => by cases z), fun _ => ?_⟩
    intro k1 ek1 _ k2 ek2 _
    have ek : k2 = cR (u.2.2 (cL c)) := by rw [ek2, ek1]; rfl
    rw [ek]
    have hh := (hT.1.2.1 (cL c) l0 p1).1 (by omega)
    intro _ _ s es _
    refine go s ?_
    rw [es, y28, if_neg (by omega), if_pos ⟨by omega, h2⟩]
  · intro _ _ d ed _
    rw [ed]
    refine ⟨fun hne => ?_, fun heq => hq x4 u (CG.rf hT) (by omega) a1 (fun _ => Decidable.not_not.mp heq) (by omega)⟩
    intro _ _ t et _
    obtain ⟨d1, d2, d3, d4⟩ := hH.1 x4 (by omega) a1
    have hs := a2 (by omega)
    refine ⟨rfl, rfl, rfl, by omega, fun z => ?_, fun i i0 i1 hi => ?_⟩
    · rw [et] at z ⊢
      rw [d3.resolve_left (by omega)]; exact hs
    · have h1 := a3 i i0 i1 hi
      have h2 : i ≠ x4 := fun z => hne (by rw [← z]; exact hi)
      rw [et]
      exact d4 i i0 (by omega) (by rw [hi]; exact hs.symm)
theorem pc_made [DecidableEq Ob] {c : Int} {Q : Int → iST → Prop} {u : iST} (hT : CT u) (hr : u.1 29 < 160000) (ok : CellOk (u.1 29) c)
    (hq : ∀ k v, CG f8M f8R u v → 0 ≤ k → k < v.1 29 → v.2.2 k = c → v.1 29 ≤ u.1 29 + 1 → Q k v) : pv_7_made c Q u := pc_madeG hT (Or.inl hr) ok (fun k v g k0 k1 e h => hq k v g k0 k1 (e hr) h)
