-- deps: 783
/-! the class: lists that have begun -/
def f8In (k : Nat) : Bool := decide (17 ≤ k ∧ k ≤ 22) || decide (k = 29)
def f8Ir (k : Nat) : Bool := decide (23 ≤ k ∧ k ≤ 30)
theorem f8M_I [DecidableEq Ob] : ∀ k, f8In k = false → f8M k = false := fun k h => (Bool.or_eq_false_iff.mp h).2
theorem f8R_I [DecidableEq Ob] : ∀ k, f8Ir k = false → f8R k = false := fun k h => by
  unfold f8Ir at h
  unfold f8R
  rw [decide_eq_false_iff_not] at h ⊢
  omega
def phC [DecidableEq Ob] (f : List Ob × Int × Ob) : Int := if f.2.1 = 0 then (if f.1 = [] then 1 else 2) else if f.2.1 = 1 then 3 else 4
def FrC [DecidableEq Ob] (u : iST) : List Sp.Fr → Int → Int → Prop
  | [], d, e => d = 0 ∧ e = 0
  | none :: r, d, e => 0 < d ∧ u.2.1 23 d = 5 ∧ FrC u r (d - 1) e
  | some f :: r, d, e => 0 < d ∧ u.2.1 23 d = phC f ∧ (f.2.1 = 0 ∨ f.2.1 = 1 ∨ f.2.1 = 2) ∧ u.2.1 24 d + (f.1.length : Int) = e ∧ (∀ i, u.2.1 24 d ≤ i → i < e → VN u (u.2.1 26 i)) ∧ lsC u (u.2.1 26) (u.2.1 24 d) f.1.length = f.1 ∧ (VN u (u.2.1 25 d) ∧ oc u (u.2.1 25 d) = (if f.2.1 = 2 then f.2.2 else Ob.nil)) ∧ FrC u r (d - 1) (u.2.1 24 d)
theorem FrC.len [DecidableEq Ob] {u : iST} : ∀ {l : List Sp.Fr} {d e : Int}, FrC u l d e → d = (l.length : Int) ∧ 0 ≤ e
  | [], d, e, h => ⟨h.1, by have := h.2; omega⟩
  | none :: r, d, e, h => by
    obtain ⟨a, b⟩ := FrC.len h.2.2
    refine ⟨?_, b⟩
    show d = ((r.length + 1 : Nat) : Int)
    omega
  | some f :: r, d, e, h => by
    obtain ⟨h0, h1, h2, h3, h4, h5, h6, h7⟩ := h
    obtain ⟨a, b⟩ := FrC.len h7
    refine ⟨?_, by omega⟩
    show d = ((r.length + 1 : Nat) : Int)
    omega
theorem FrC.mono [DecidableEq Ob] {n m : Nat → Bool} {u v : iST} (hT : CT u) (g : CG n m u v) : ∀ {l : List Sp.Fr} {d e : Int}, FrC u l d e → (∀ i, i ≤ d → v.2.1 23 i = u.2.1 23 i ∧ v.2.1 24 i = u.2.1 24 i ∧ v.2.1 25 i = u.2.1 25 i) → (∀ i, i < e → v.2.1 26 i = u.2.1 26 i) → FrC v l d e
  | [], _, _, h, _, _ => h
  | none :: r, d, e, h, h1, h2 => ⟨h.1, by rw [(h1 d (Int.le_refl _)).1]; exact h.2.1, FrC.mono hT g h.2.2 (fun i hi => h1 i (by omega)) h2⟩
  | some f :: r, d, e, h, h1, h2 => by
    obtain ⟨a0, a1, a2, a3, a4, a5, ⟨a6, a6'⟩, a7⟩ := h
    obtain ⟨e1, e2, e3⟩ := h1 d (Int.le_refl _)
    refine ⟨a0, by rw [e1]; exact a1, a2, by rw [e2]; exact a3, fun i i0 i1 => ?_, ?_, ?_, ?_⟩
    · rw [e2] at i0
      rw [h2 i i1]
      exact (a4 i i0 i1).up g
    · rw [e2]
      refine (lsC_congr (fun i hi => ?_)).trans a5
      rw [h2 _ (by omega)]
      have := a4 (u.2.1 24 d + (i : Int)) (by omega) (by omega)
      exact g.oc hT this.1 this.2
    · rw [e3]
      exact ⟨a6.up g, by rw [g.oc hT a6.1 a6.2]; exact a6'⟩
    · rw [e2]
      exact FrC.mono hT g a7 (fun i hi => h1 i (by omega)) (fun i hi => h2 i (by omega))
def WhC [DecidableEq Ob] (u : iST) (w : Option Ob) : Prop := match w with | none => u.2.1 23 0 = 0 | some o => u.2.1 23 0 = 6 ∧ VN u (u.1 20) ∧ oc u (u.1 20) = o
theorem WhC.mono [DecidableEq Ob] {n m : Nat → Bool} {u v : iST} {w : Option Ob} (h : WhC u w) (hT : CT u) (g : CG n m u v) (h23 : v.2.1 23 0 = u.2.1 23 0) (h20 : v.1 20 = u.1 20) : WhC v w := by
  cases w with
  | none => exact h23.trans h
  | some o => exact ⟨h23.trans h.1, by rw [h20]; exact h.2.1.up g, by rw [h20, g.oc hT h.2.1.1 h.2.1.2]; exact h.2.2⟩
/-- what is delivered finds its place -/
def DlOk [DecidableEq Ob] : List Sp.Fr → Prop | [] => True | none :: r => DlOk r | some f :: _ => f.2.1 < 2
def NsO [DecidableEq Ob] : List Sp.Fr → Prop | [] => True | _ :: r => DlOk r ∧ NsO r
theorem NsO.del [DecidableEq Ob] : ∀ (l : List Sp.Fr) (o : Ob), NsO l → NsO (Sp.rdDel none l o).1
  | [], o, _ => trivial
  | none :: r, o, h => NsO.del r _ h.2
  | some f :: r, o, h => by
    show NsO (if f.2.1 = 1 then (some (f.1, 2, o) :: r, none) else (some (f.1 ++ [o], f.2.1, f.2.2) :: r, none) : Sp.Rd).1
    split
    · exact h
    · exact h
theorem del_none [DecidableEq Ob] : ∀ (l : List Sp.Fr) (o : Ob), (Sp.rdDel none l o).1 ≠ [] → (Sp.rdDel none l o).2 = none
  | [], o, h => absurd rfl h
  | none :: r, o, h => del_none r _ h
  | some f :: r, o, h => by
    show (if f.2.1 = 1 then (some (f.1, 2, o) :: r, none) else (some (f.1 ++ [o], f.2.1, f.2.2) :: r, none) : Sp.Rd).2 = none
    split <;> rfl
/-- quotes that have begun -/
def nq [DecidableEq Ob] : List Sp.Fr → Int | [] => 0 | none :: r => 1 + nq r | some _ :: r => nq r
theorem nq_pos [DecidableEq Ob] : ∀ l : List Sp.Fr, 0 ≤ nq l
  | [] => Int.le_refl _
  | none :: r => by
    have := nq_pos r
    show 0 ≤ 1 + nq r
    omega
  | some _ :: r => nq_pos r
/-- what is read so far -/
def RdC [DecidableEq Ob] (u : iST) (st : Sp.Rd) : Prop := FrC u st.1 (u.1 17) (u.1 18) ∧ WhC u st.2 ∧ (st.1 ≠ [] → st.2 = none) ∧ NsO st.1
/-- what a word leaves -/
def RdD [DecidableEq Ob] (u v : iST) (l : List Sp.Fr) (o : Ob) : Prop := CG f8In f8Ir u v ∧ RdC v (Sp.rdDel none l o) ∧ v.1 19 = u.1 19 ∧ v.1 21 = u.1 21 ∧ v.1 18 ≤ u.1 18 + 1 ∧ v.1 29 + v.1 18 + 2 * nq (Sp.rdDel none l o).1 ≤ u.1 29 + u.1 18 + 2 * nq l + 1
theorem pc_deliver59 [DecidableEq Ob] {x : Int} {Q : iST → Prop} {u : iST} {l : List Sp.Fr} (hT : CT u) (vx : VN u x) (hF : FrC u l (u.1 17) (u.1 18)) (hW : u.2.1 23 0 = 0) (hl : ∀ r, l ≠ none :: r) (hD : DlOk l) (hN : NsO l) (h18 : u.1 18 < 1000) (hq : ∀ v, RdD u v l (oc u x) → Q v) : pv_5_deliver_59 Q x u := by
  unfold pv_5_deliver_59
  intro v2 e2 _ _ _ v3 e3 _
  rw [e2] at e3
  cases l with
  | nil =>
    have d0 := hF.1
    have e0 := hF.2
    refine ⟨fun q => absurd (by rw [e3, d0]; exact hW) q, fun _ => ?_⟩
    intro y1 ey1 v13 e13 _ _ _ y2 ey2
    have g1 : CG f8In f8Ir u y1 := by rw [ey1]; exact CG_I hT (by decide) (by decide)
    have g2 : CG f8In f8Ir y1 y2 := by rw [ey2]; exact CG_A g1.1 (by omega) (by decide)
    have n2 : ∀ j, j ≠ 20 → y2.1 j = u.1 j := fun j hj => by rw [ey2]; show y1.1 j = _; rw [ey1, iIc_ne _ _ hj]
    have n20 : y2.1 20 = x := by rw [ey2]; show y1.1 20 = _; rw [ey1, iIc_at]
    have c2 : y2.2.2 = u.2.2 := by rw [ey2, ey1]; rfl
    have g12 := g1.tr g2
    rw [ey1, iIc_ne _ _ (by decide), d0] at e13
    have r23 : y2.2.1 23 0 = 6 := by rw [ey2, e13]; exact iAc_at _ _ _ _
    refine hq y2 ⟨g12, ⟨⟨by rw [n2 17 (by decide)]; exact d0, by rw [n2 18 (by decide)]; exact e0⟩, ⟨r23, by rw [n20]; exact vx.up g12, by rw [n20]; exact oc_same c2 x⟩, fun z => absurd rfl z, trivial⟩, n2 19 (by decide), n2 21 (by decide), by rw [n2 18 (by decide)]; omega, ?_⟩
    rw [n2 29 (by decide), n2 18 (by decide)]
    show u.1 29 + u.1 18 + 2 * 0 ≤ u.1 29 + u.1 18 + 2 * 0 + 1
    omega
  | cons f r =>
    cases f with
    | none => exact absurd rfl (hl r)
    | some f =>
      obtain ⟨a0, a1, a2, a3, a4, a5, ⟨a6, a6'⟩, a7⟩ := hF
      obtain ⟨lr, lb⟩ := a7.len
      have ph : u.2.1 23 (u.1 17) ≠ 0 := by
        rw [a1]
        unfold phC
        split
        · split <;> decide
        · split <;> decide
      refine ⟨fun _ => ?_, fun q => absurd (by rw [e3]; exact ph) q⟩
      intro v4 e4 _ _ _ v5 e5 _
      rw [e4] at e5
      refine ⟨fun q3 => ?_, fun q3 => ?_⟩
      · -- an item
        have h1 : f.2.1 ≠ 1 := fun q => q3 (by
          rw [e5, a1]
          unfold phC
          rw [if_neg (by omega), if_pos q])
        intro v6 e6 _
        refine ⟨fun q => by omega, fun _ => ?_⟩
        intro v7 e7 _ _ _ y1 ey1 v8 e8 _ _ y2 ey2 v10 e10 _ _ _ y3 ey3
        rw [e7] at ey1
        rw [ey1] at e8
        have e8 : v8 = u.1 18 := e8
        rw [e8] at ey2
        have n2 : ∀ j, j ≠ 18 → y2.1 j = u.1 j := fun j hj => by rw [ey2, iIc_ne _ _ hj, ey1]; rfl
        rw [n2 17 (by decide)] at e10
        rw [e10] at ey3
        have g1 : CG f8In f8Ir u y1 := by rw [ey1]; exact CG_A hT (by omega) (by decide)
        have g2 : CG f8In f8Ir y1 y2 := by rw [ey2]; exact CG_I g1.1 (by decide) (by decide)
        have g3 : CG f8In f8Ir y2 y3 := by rw [ey3]; exact CG_A g2.1 (by omega) (by decide)
        have g := (g1.tr g2).tr g3
        have c3 : ∀ k, oc y3 k = oc u k := fun k => oc_same (by rw [ey3, ey2, ey1]; rfl) k
        have n3 : ∀ j, j ≠ 18 → y3.1 j = u.1 j := fun j hj => by rw [ey3]; exact n2 j hj
        have n18 : y3.1 18 = u.1 18 + 1 := by rw [ey3]; show y2.1 18 = _; rw [ey2, iIc_at]
        have r26 : ∀ i, y3.2.1 26 i = if i = u.1 18 then x else u.2.1 26 i := fun i => by rw [ey3, ey2, ey1]; rfl
        have r23 : ∀ i, y3.2.1 23 i = if i = u.1 17 then 2 else u.2.1 23 i := fun i => by rw [ey3, ey2, ey1]; rfl
        have r24 : y3.2.1 24 = u.2.1 24 := by rw [ey3, ey2, ey1]; rfl
        have r25 : y3.2.1 25 = u.2.1 25 := by rw [ey3, ey2, ey1]; rfl
        have eD : Sp.rdDel none (some f :: r) (oc u x) = (some (f.1 ++ [oc u x], f.2.1, f.2.2) :: r, none) := if_neg h1
        have f0 : f.2.1 = 0 := by
          have hD : f.2.1 < 2 := hD
          omega
        refine hq y3 ⟨g, ?_, n3 19 (by decide), n3 21 (by decide), by omega, ?_⟩
        · rw [eD]
          refine ⟨⟨by rw [n3 17 (by decide)]; exact a0, ?_, Or.inl f0, ?_, fun i i0 i1 => ?_, ?_, ?_, ?_⟩, ?_, fun _ => rfl, hN⟩
          · rw [n3 17 (by decide), r23, if_pos rfl]
            show (2 : Int) = (if f.2.1 = 0 then (if f.1 ++ [oc u x] = [] then 1 else 2) else if f.2.1 = 1 then 3 else 4)
            rw [if_pos f0, if_neg (by simp)]
          · rw [n3 17 (by decide), r24, n18]
            show u.2.1 24 (u.1 17) + ((f.1 ++ [oc u x]).length : Int) = u.1 18 + 1
            rw [List.length_append]
            show u.2.1 24 (u.1 17) + ((f.1.length + 1 : Nat) : Int) = u.1 18 + 1
            omega
          · rw [n3 17 (by decide), r24] at i0
            rw [n18] at i1
            rw [r26]
            by_cases c : i = u.1 18
            · rw [if_pos c]; exact vx.up g
            · rw [if_neg c]; exact (a4 i i0 (by omega)).up g
          · rw [n3 17 (by decide), r24]
            show lsC y3 (y3.2.1 26) (u.2.1 24 (u.1 17)) (f.1 ++ [oc u x]).length = f.1 ++ [oc u x]
            rw [List.length_append]
            show lsC y3 (y3.2.1 26) (u.2.1 24 (u.1 17)) (f.1.length + 1) = f.1 ++ [oc u x]
            rw [lsC_snoc, r26, if_pos (by omega), c3]
            refine congrArg (fun z => z ++ [oc u x]) ((lsC_congr (fun i hi => ?_)).trans a5)
            rw [r26, if_neg (by omega), c3]
          · rw [n3 17 (by decide), r25]
            exact ⟨a6.up g, by rw [c3]; exact a6'⟩
          · rw [n3 17 (by decide), r24]
            refine a7.mono hT g (fun i hi => ⟨?_, by rw [r24], by rw [r25]⟩) (fun i hi => ?_)
            · rw [r23, if_neg (by omega)]
            · rw [r26, if_neg (by omega)]
          · show y3.2.1 23 0 = 0
            rw [r23, if_neg (by omega)]
            exact hW
        · rw [eD, n3 29 (by decide), n18]
          show u.1 29 + (u.1 18 + 1) + 2 * nq r ≤ u.1 29 + u.1 18 + 2 * nq r + 1
          omega
      · -- the end of a list with a point
        have q3 := Decidable.not_not.mp q3
        have h1 : f.2.1 = 1 := by
          rw [e5, a1] at q3
          unfold phC at q3
          by_cases c0 : f.2.1 = 0
          · rw [if_pos c0] at q3
            split at q3 <;> omega
          · rw [if_neg c0] at q3
            by_cases c1 : f.2.1 = 1
            · exact c1
            · rw [if_neg c1] at q3; omega
        intro v11 e11 _ _ _ y1 ey1 v12 e12 _ _ _ y2 ey2
        rw [e11] at ey1
        rw [ey1] at e12
        have e12 : v12 = u.1 17 := e12
        rw [e12] at ey2
        have g1 : CG f8In f8Ir u y1 := by rw [ey1]; exact CG_A hT (by omega) (by decide)
        have g2 : CG f8In f8Ir y1 y2 := by rw [ey2]; exact CG_A g1.1 (by omega) (by decide)
        have g := g1.tr g2
        have c2 : ∀ k, oc y2 k = oc u k := fun k => oc_same (by rw [ey2, ey1]; rfl) k
        have n2 : y2.1 = u.1 := by rw [ey2, ey1]; rfl
        have r25 : ∀ i, y2.2.1 25 i = if i = u.1 17 then x else u.2.1 25 i := fun i => by rw [ey2, ey1]; rfl
        have r23 : ∀ i, y2.2.1 23 i = if i = u.1 17 then 4 else u.2.1 23 i := fun i => by rw [ey2, ey1]; rfl
        have r24 : y2.2.1 24 = u.2.1 24 := by rw [ey2, ey1]; rfl
        have r26 : y2.2.1 26 = u.2.1 26 := by rw [ey2, ey1]; rfl
        have eD : Sp.rdDel none (some f :: r) (oc u x) = (some (f.1, 2, oc u x) :: r, none) := if_pos h1
        refine hq y2 ⟨g, ?_, by rw [n2], by rw [n2], by rw [n2]; omega, ?_⟩
        · rw [eD]
          refine ⟨⟨by rw [n2]; exact a0, ?_, Or.inr (Or.inr rfl), ?_, fun i i0 i1 => ?_, ?_, ?_, ?_⟩, ?_, fun _ => rfl, hN⟩
          · rw [n2, r23, if_pos rfl]; rfl
          · rw [n2, r24]; exact a3
          · rw [n2, r24] at i0
            rw [n2] at i1
            rw [r26]; exact (a4 i i0 i1).up g
          · rw [n2, r24, r26]
            exact (lsC_congr (fun i hi => c2 _)).trans a5
          · rw [n2, r25, if_pos rfl]
            exact ⟨vx.up g, by rw [c2]; rfl⟩
          · rw [n2, r24]
            refine a7.mono hT g (fun i hi => ⟨?_, by rw [r24], ?_⟩) (fun i hi => by rw [r26])
            · rw [r23, if_neg (by omega)]
            · rw [r25, if_neg (by omega)]
          · show y2.2.1 23 0 = 0
            rw [r23, if_neg (by omega)]
            exact hW
        · rw [eD, n2]
          show u.1 29 + u.1 18 + 2 * nq r ≤ u.1 29 + u.1 18 + 2 * nq r + 1
          omega
/-- what has ended is given to what it stands in -/
theorem pc_deliver [DecidableEq Ob] {x : Int} {Q : iST → Prop} {u : iST} {l : List Sp.Fr} (hT : CT u) (vx : VN u x) (hF : FrC u l (u.1 17) (u.1 18)) (hW : u.2.1 23 0 = 0) (hD : DlOk l) (hN : NsO l) (h18 : u.1 18 < 1000) (hroom : u.1 29 + 2 * nq l ≤ 160000) (hq : ∀ v, RdD u v l (oc u x) → Q v) : pv_5_deliver x Q u := by
  unfold pv_5_deliver
  refine pv_5_deliver_2_i (fun x2 y => ∃ l', CG f8In f8Ir u y ∧ VN y x2 ∧ FrC y l' (y.1 17) (y.1 18) ∧ y.2.1 23 0 = 0 ∧ DlOk l' ∧ NsO l' ∧ y.1 18 = u.1 18 ∧ y.1 19 = u.1 19 ∧ y.1 21 = u.1 21 ∧ y.1 29 + 2 * nq l' ≤ u.1 29 + 2 * nq l ∧ Sp.rdDel none l' (oc y x2) = Sp.rdDel none l (oc u x)) ?_ ⟨l, CG.rf hT, vx, hF, hW, hD, hN, rfl, rfl, rfl, Int.le_refl _, rfl⟩
  rintro x2 y ⟨l', gy, vy, hFy, hWy, hDy, hNy, y18, y19, y21, hroomy, eD⟩
  have fin : (∀ r, l' ≠ none :: r) → pv_5_deliver_59 Q x2 y := fun hl => by
    refine pc_deliver59 gy.1 vy hFy hWy hl hDy hNy (by omega) (fun v hv => hq v ?_)
    obtain ⟨g, h1, h2, h3, h4, h5⟩ := hv
    rw [eD] at h1 h5
    exact ⟨gy.tr g, h1, h2.trans y19, h3.trans y21, by omega, by omega⟩
  have nqp := nq_pos l'
  unfold pv_5_deliver_2b
  intro v1 e1 _
  refine ⟨fun q => fin (fun r hr => ?_), fun q => ?_⟩
  · rw [hr] at hFy
    have := hFy.1
    omega
  intro v14 e14 _ _ _ v15 e15 _
  rw [e14] at e15
  refine ⟨fun q5 => fin (fun r hr => ?_), fun q5 => ?_⟩
  · rw [hr] at hFy
    exact q5 (e15.trans hFy.2.1)
  have q5 := Decidable.not_not.mp q5
  cases l' with
  | nil =>
    have := hFy.1
    omega
  | cons f r =>
    cases f with
    | some f =>
      have := hFy.2.1
      rw [← e15, q5] at this
      unfold phC at this
      split at this
      · split at this <;> omega
      · split at this <;> omega
    | none =>
      have hr1 : y.1 29 + 2 * (1 + nq r) ≤ u.1 29 + 2 * nq l := hroomy
      have nqr := nq_pos r
      obtain ⟨z0, z1⟩ := VN.zero gy.1
      refine pc_pair gy.1 vy z0 (by omega) (fun t1 w1 g1 vt1 et1 h1 => ?_)
      obtain ⟨k0, k1, k2⟩ := knC g1.1 2 (o := Ob.quote) (by decide) (by decide) rfl
      refine pc_pair g1.1 ⟨k0, k1⟩ vt1 (by omega) (fun t2 w2 g2 vt2 et2 h2 => ?_)
      intro v20 e20 _ _ w3 ew3
      have g12 := g1.tr g2
      have gI : CG f8In f8Ir y w2 := g12.mono f8M_I f8R_I
      have g3 : CG f8In f8Ir w2 w3 := by rw [ew3]; exact CG_I g2.1 (by decide) (by decide)
      have g13 := gI.tr g3
      have n3 : ∀ j, j ≠ 17 → w3.1 j = w2.1 j := fun j hj => by rw [ew3, iIc_ne _ _ hj]
      have w217 : w2.1 17 = y.1 17 := g12.2.2.1 17 (by decide)
      rw [w217] at e20
      have n17 : w3.1 17 = y.1 17 - 1 := by rw [ew3, iIc_at, e20]
      have r3 : ∀ j, (j < 27 ∨ 30 < j) → w3.2.1 j = y.2.1 j := fun j hj => by
        rw [ew3]
        show w2.2.1 j = _
        exact g12.2.2.2 j (by unfold f8R; exact decide_eq_false (by omega))
      have n318 : w3.1 18 = y.1 18 := by rw [n3 18 (by decide)]; exact g12.2.2.1 18 (by decide)
      have et2' : oc w3 t2 = .pr Ob.quote (.pr (oc y x2) Ob.nil) := by
        rw [oc_same (u := w2) (v := w3) (by rw [ew3]; rfl), et2, k2, et1, z1]
      refine ⟨r, gy.tr g13, vt2.up g3, ?_, by rw [r3 23 (by omega)]; exact hWy, hDy, hNy.2, by rw [n318]; exact y18, ?_, ?_, ?_, ?_⟩
      · rw [n17, n318]
        exact hFy.2.2.mono gy.1 g13 (fun i _ => ⟨by rw [r3 23 (by omega)], by rw [r3 24 (by omega)], by rw [r3 25 (by omega)]⟩) (fun i _ => by rw [r3 26 (by omega)])
      · rw [n3 19 (by decide), g12.2.2.1 19 (by decide)]; exact y19
      · rw [n3 21 (by decide), g12.2.2.1 21 (by decide)]; exact y21
      · rw [n3 29 (by decide)]; omega
      · rw [et2']
        exact eD
