-- deps: 784
/-! the class: marks of a text -/
def csW [DecidableEq Ob] (st : Sp.Rd) (c : Int) : Bool := if c = 41 then (Sp.rdClose st).isSome else if c = 46 then (Sp.rdDot st).isSome else Sp.rdBeg st
theorem pc_canStand [DecidableEq Ob] {c : Int} {Q : Int → iST → Prop} {u : iST} {st : Sp.Rd} (hR : RdC u st) (hq : ∀ r, bq r (csW st c) → Q r u) : pv_5_canStand c Q u := by
  obtain ⟨hF, hW, hN, _⟩ := hR
  obtain ⟨l, w⟩ := st
  unfold csW at hq
  unfold pv_5_canStand
  intro v1 e1 _ _ _ v2 e2 _
  rw [e1] at e2
  cases l with
  | nil =>
    have d0 : u.1 17 = 0 := hF.1
    rw [d0] at e2
    have c1 : Sp.rdClose (([], w) : Sp.Rd) = none := rfl
    have c2 : Sp.rdDot (([], w) : Sp.Rd) = none := rfl
    have c3 : Sp.rdBeg (([], w) : Sp.Rd) = w.isNone := rfl
    rw [c1, c2, c3] at hq
    cases w with
    | none =>
      have e2 : v2 = 0 := e2.trans hW
      refine ⟨fun q => by omega, fun _ => ⟨fun q => by omega, fun _ => ⟨fun q => by omega, fun _ => ⟨fun q => by omega, fun _ => ⟨fun q => by omega, fun _ => ⟨fun q => by omega, fun _ => ⟨fun q _ => hq 0 (bq0 ?_), fun q => ⟨fun q' _ => hq 0 (bq0 ?_), fun q' _ => hq 1 (bq1 ?_)⟩⟩⟩⟩⟩⟩⟩⟩
      · rw [if_neg (by omega), if_pos q]; rfl
      · rw [if_pos q']; rfl
      · rw [if_neg q', if_neg q]; rfl
    | some o =>
      have e2 : v2 = 6 := e2.trans hW.1
      refine ⟨fun q => by omega, fun _ => ⟨fun q => by omega, fun _ => ⟨fun q => by omega, fun _ => ⟨fun q => by omega, fun _ => ⟨fun q => by omega, fun _ => ⟨fun q _ => hq 0 (bq0 ?_), fun q => by omega⟩⟩⟩⟩⟩⟩
      split
      · rfl
      · split <;> rfl
  | cons f r =>
    cases f with
    | none =>
      have e2 : v2 = 5 := e2.trans hF.2.1
      have c1 : Sp.rdClose ((none :: r, w) : Sp.Rd) = none := rfl
      have c2 : Sp.rdDot ((none :: r, w) : Sp.Rd) = none := rfl
      have c3 : Sp.rdBeg ((none :: r, w) : Sp.Rd) = true := rfl
      rw [c1, c2, c3] at hq
      refine ⟨fun q => by omega, fun _ => ⟨fun q => by omega, fun _ => ⟨fun q => by omega, fun _ => ⟨fun q => by omega, fun _ => ⟨fun _ => ⟨fun q _ => hq 0 (bq0 ?_), fun q => ⟨fun q' _ => hq 0 (bq0 ?_), fun q' _ => hq 1 (bq1 ?_)⟩⟩, fun q => by omega⟩⟩⟩⟩⟩
      · rw [if_neg (by omega), if_pos q]; rfl
      · rw [if_pos q']; rfl
      · rw [if_neg q', if_neg q]
    | some f =>
      have e2 : v2 = phC f := e2.trans hF.2.1
      have hf := hF.2.2.1
      have c1 : Sp.rdClose ((some f :: r, w) : Sp.Rd) = if f.2.1 = 1 then none else some (Sp.rdDel w r (Sp.ofL f.1 (if f.2.1 = 2 then f.2.2 else Ob.nil))) := rfl
      have c2 : Sp.rdDot ((some f :: r, w) : Sp.Rd) = if f.2.1 = 0 ∧ f.1.isEmpty = false then some (some (f.1, 1, f.2.2) :: r, w) else none := rfl
      have c3 : Sp.rdBeg ((some f :: r, w) : Sp.Rd) = decide (f.2.1 < 2) := rfl
      unfold phC at e2
      by_cases f0 : f.2.1 = 0
      · rw [if_pos f0] at e2
        have c1' : (Sp.rdClose ((some f :: r, w) : Sp.Rd)).isSome = true := by rw [c1, if_neg (by omega)]; rfl
        have c3' : Sp.rdBeg ((some f :: r, w) : Sp.Rd) = true := by rw [c3]; exact decide_eq_true (by omega)
        rw [c1', c3'] at hq
        by_cases fe : f.1 = []
        · rw [if_pos fe] at e2
          have c2' : (Sp.rdDot ((some f :: r, w) : Sp.Rd)).isSome = false := by rw [c2, if_neg (fun q => by rw [fe] at q; cases q.2)]; rfl
          rw [c2'] at hq
          refine ⟨fun _ => ⟨fun q _ => hq 0 (bq0 ?_), fun q _ => hq 1 (bq1 ?_)⟩, fun q => by omega⟩
          · rw [if_neg (by omega), if_pos q]
          · rw [if_neg q]
            split <;> rfl
        · rw [if_neg fe] at e2
          have c2' : (Sp.rdDot ((some f :: r, w) : Sp.Rd)).isSome = true := by rw [c2, if_pos ⟨f0, by cases h : f.1 with | nil => exact absurd h fe | cons a b => rfl⟩]; rfl
          rw [c2'] at hq
          refine ⟨fun q => by omega, fun _ => ⟨fun _ _ => hq 1 (bq1 ?_), fun q => by omega⟩⟩
          split
          · rfl
          · split <;> rfl
      · rw [if_neg f0] at e2
        have c2' : (Sp.rdDot ((some f :: r, w) : Sp.Rd)).isSome = false := by rw [c2, if_neg (show ¬ (f.2.1 = 0 ∧ f.1.isEmpty = false) from fun q => f0 q.1)]; rfl
        rw [c2'] at hq
        by_cases f1 : f.2.1 = 1
        · rw [if_pos f1] at e2
          have c1' : (Sp.rdClose ((some f :: r, w) : Sp.Rd)).isSome = false := by rw [c1, if_pos f1]; rfl
          have c3' : Sp.rdBeg ((some f :: r, w) : Sp.Rd) = true := by rw [c3]; exact decide_eq_true (by omega)
          rw [c1', c3'] at hq
          refine ⟨fun q => by omega, fun _ => ⟨fun q => by omega, fun _ => ⟨fun _ => ⟨fun q _ => hq 0 (bq0 ?_), fun q => ⟨fun q' _ => hq 0 (bq0 ?_), fun q' _ => hq 1 (bq1 ?_)⟩⟩, fun q => by omega⟩⟩⟩
          · rw [if_neg (by omega), if_pos q]
          · rw [if_pos q']
          · rw [if_neg q', if_neg q]
        · rw [if_neg f1] at e2
          have c1' : (Sp.rdClose ((some f :: r, w) : Sp.Rd)).isSome = true := by rw [c1, if_neg f1]; rfl
          have c3' : Sp.rdBeg ((some f :: r, w) : Sp.Rd) = false := by rw [c3]; exact decide_eq_false (by omega)
          rw [c1', c3'] at hq
          refine ⟨fun q => by omega, fun _ => ⟨fun q => by omega, fun _ => ⟨fun q => by omega, fun _ => ⟨fun _ => ⟨fun q _ => hq 0 (bq0 ?_), fun q _ => hq 1 (bq1 ?_)⟩, fun q => by omega⟩⟩⟩⟩
          · rw [if_neg q]
            split <;> rfl
          · rw [if_pos (Decidable.not_not.mp q)]
/-- what a mark leaves -/
def RdM [DecidableEq Ob] (u v : iST) (st st' : Sp.Rd) : Prop := CG f8In f8Ir u v ∧ RdC v st' ∧ v.1 19 = u.1 19 ∧ v.1 21 = u.1 21 ∧ v.1 18 ≤ u.1 18 + 1 ∧ v.1 29 + v.1 18 + 2 * nq st'.1 ≤ u.1 29 + u.1 18 + 2 * nq st.1 + 2
theorem pc_takeMark [DecidableEq Ob] {c : Int} {Q : iST → Prop} {u : iST} {st st' : Sp.Rd} (hT : CT u) (hR : RdC u st) (hm : Sp.rdMark c st = some st') (h18 : u.1 18 < 1000) (hroom : u.1 29 + u.1 18 + 2 * nq st.1 ≤ 159990) (hq : ∀ v, RdM u v st st' → Q v) : pv_5_takeMark c Q u := by
  obtain ⟨hF, hW, hWn, hN⟩ := hR
  obtain ⟨l, w⟩ := st
  have hF : FrC u l (u.1 17) (u.1 18) := hF
  have hN : NsO l := hN
  have nql := nq_pos l
  have hroom : u.1 29 + u.1 18 + 2 * nq l ≤ 159990 := hroom
  unfold Sp.rdMark at hm
  -- something begins
  have begins : ∀ (q : Bool) (ph : Int), ph = (if q then 5 else 1) → Sp.rdOpen q (l, w) = some st' → (c ≠ 46 ∧ c ≠ 41) → (if q then c ≠ 40 else c = 40) → pv_5_takeMark c Q u := by
    intro q ph eph ho hc hcq
    unfold Sp.rdOpen at ho
    by_cases hb : (Sp.rdBeg (l, w) && decide (l.length < 40)) = true
    · rw [if_pos hb] at ho
      have ho := (Option.some.inj ho).symm
      obtain ⟨hb1, hb2⟩ := Bool.and_eq_true_iff.mp hb
      have hb2 : l.length < 40 := of_decide_eq_true hb2
      obtain ⟨dl, e0⟩ := hF.len
      have hDl : DlOk l := by
        have gen : ∀ l' : List Sp.Fr, NsO l' → Sp.rdBeg (l', w) = true → DlOk l' := fun l' hN' hb' => by
          cases l' with
          | nil => trivial
          | cons f r =>
            cases f with
            | none => exact hN'.1
            | some f =>
              have hb'' : decide (f.2.1 < 2) = true := hb'
              exact (of_decide_eq_true hb'' : f.2.1 < 2)
        exact gen l hN hb1
      have hwn : w = none := by
        cases l with
        | nil =>
          cases w with
          | none => rfl
          | some o => cases hb1
        | cons f r => exact hWn (by intro z; cases z)
      unfold pv_5_takeMark
      refine ⟨fun _ => ⟨fun _ => ?_, fun z => absurd hc.2 z⟩, fun z => absurd hc.1 z⟩
      unfold pv_5_takeMark_117
      refine ⟨fun z => absurd z hc.2, fun _ => ?_⟩
      intro v1 e1 _
      refine ⟨fun z => by omega, fun _ => ?_⟩
      intro v2 e2 _ _ y1 ey1 v4 e4 _
      rw [e2] at ey1
      have n1 : ∀ j, j ≠ 17 → y1.1 j = u.1 j := fun j hj => by rw [ey1, iIc_ne _ _ hj]
      have n17 : y1.1 17 = u.1 17 + 1 := by rw [ey1, iIc_at]
      rw [n17] at e4
      have g1 : CG f8In f8Ir u y1 := by rw [ey1]; exact CG_I hT (by decide) (by decide)
      have fin : pv_5_takeMark_161 Q v4 ph y1 := by
        rw [e4]
        unfold pv_5_takeMark_161
        intro _ _ y2 ey2 v5 e5 _ v6 e6 _ _ _ y3 ey3 v7 e7 _ _ _ y4 ey4
        have n2 : y2.1 = y1.1 := by rw [ey2]; rfl
        rw [n2, n17] at e5
        rw [n2, n1 18 (by decide)] at e6
        have n3 : y3.1 = y1.1 := by rw [ey3]; exact n2
        rw [n3, n17] at e7
        rw [e5, e6] at ey3
        rw [e7] at ey4
        have n4 : y4.1 = y1.1 := by rw [ey4]; exact n3
        have g2 : CG f8In f8Ir y1 y2 := by rw [ey2]; exact CG_A g1.1 (by omega) (by decide)
        have g3 : CG f8In f8Ir y2 y3 := by rw [ey3]; exact CG_A g2.1 (by omega) (by decide)
        have g4 : CG f8In f8Ir y3 y4 := by rw [ey4]; exact CG_A g3.1 (by omega) (by decide)
        have g := ((g1.tr g2).tr g3).tr g4
        have r23 : ∀ i, y4.2.1 23 i = if i = u.1 17 + 1 then ph else u.2.1 23 i := fun i => by rw [ey4, ey3, ey2, ey1]; rfl
        have r24 : ∀ i, y4.2.1 24 i = if i = u.1 17 + 1 then u.1 18 else u.2.1 24 i := fun i => by rw [ey4, ey3, ey2, ey1]; rfl
        have r25 : ∀ i, y4.2.1 25 i = if i = u.1 17 + 1 then 0 else u.2.1 25 i := fun i => by rw [ey4, ey3, ey2, ey1]; rfl
        have r26 : y4.2.1 26 = u.2.1 26 := by rw [ey4, ey3, ey2, ey1]; rfl
        have n417 : y4.1 17 = u.1 17 + 1 := by rw [n4]; exact n17
        have nO : ∀ j, j ≠ 17 → y4.1 j = u.1 j := fun j hj => by rw [n4]; exact n1 j hj
        obtain ⟨z0, z1⟩ := VN.zero g4.1
        have hFo : FrC y4 l (u.1 17) (u.1 18) := hF.mono hT g (fun i hi => ⟨by rw [r23, if_neg (by omega)], by rw [r24, if_neg (by omega)], by rw [r25, if_neg (by omega)]⟩) (fun i _ => by rw [r26])
        have hWo : y4.2.1 23 0 = u.2.1 23 0 := by rw [r23, if_neg (by omega)]
        have hWo' : WhC y4 w := by
          rw [hwn] at hW ⊢
          exact hWo.trans hW
        have em : u.1 17 + 1 - 1 = u.1 17 := by omega
        rw [ho] at hq
        refine hq y4 ⟨g, ?_, nO 19 (by decide), nO 21 (by decide), by rw [nO 18 (by decide)]; omega, ?_⟩
        · cases q with
          | true =>
            refine ⟨⟨by rw [n417]; omega, by rw [n417, r23, if_pos rfl]; exact eph, ?_⟩, hWo', fun _ => hwn, hDl, hN⟩
            rw [n417, em, nO 18 (by decide)]
            exact hFo
          | false =>
            refine ⟨⟨by rw [n417]; omega, by rw [n417, r23, if_pos rfl]; exact eph, Or.inl rfl, ?_, fun i i0 i1 => ?_, rfl, ?_, ?_⟩, hWo', fun _ => hwn, hDl, hN⟩
            · rw [n417, r24, if_pos rfl, nO 18 (by decide)]
              show u.1 18 + 0 = u.1 18
              omega
            · rw [n417, r24, if_pos rfl] at i0
              rw [nO 18 (by decide)] at i1
              omega
            · rw [n417, r25, if_pos rfl]
              exact ⟨z0, z1⟩
            · rw [n417, em, r24, if_pos rfl]
              exact hFo
        · rw [nO 29 (by decide), nO 18 (by decide)]
          cases q with
          | true => show u.1 29 + u.1 18 + 2 * (1 + nq l) ≤ u.1 29 + u.1 18 + 2 * nq l + 2; omega
          | false => show u.1 29 + u.1 18 + 2 * nq l ≤ u.1 29 + u.1 18 + 2 * nq l + 2; omega
      cases q with
      | true =>
        have eph : ph = 5 := eph
        rw [eph] at fin
        exact ⟨fun _ => fin, fun z => absurd hcq z⟩
      | false =>
        have eph : ph = 1 := eph
        rw [eph] at fin
        exact ⟨fun z => absurd hcq z, fun _ => fin⟩
    · rw [if_neg hb] at ho
      cases ho
  by_cases c40 : c = 40
  · rw [if_pos c40] at hm
    exact begins false 1 rfl hm ⟨by omega, by omega⟩ c40
  rw [if_neg c40] at hm
  by_cases c39 : c = 39
  · rw [if_pos c39] at hm
    exact begins true 5 rfl hm ⟨by omega, by omega⟩ c40
  rw [if_neg c39] at hm
  by_cases c41 : c = 41
  · -- a list ends
    rw [if_pos c41] at hm
    cases l with
    | nil => cases hm
    | cons f r =>
      cases f with
      | none => cases hm
      | some f =>
        have hm : (if f.2.1 = 1 then none else some (Sp.rdDel w r (Sp.ofL f.1 (if f.2.1 = 2 then f.2.2 else Ob.nil)))) = some st' := hm
        by_cases f1 : f.2.1 = 1
        · rw [if_pos f1] at hm; cases hm
        rw [if_neg f1] at hm
        have hm := (Option.some.inj hm).symm
        have hwn : w = none := hWn (by intro z; cases z)
        obtain ⟨a0, a1, a2, a3, a4, a5, ⟨a6, a6'⟩, a7⟩ := hF
        obtain ⟨lr, lb⟩ := a7.len
        have hroom : u.1 29 + u.1 18 + 2 * nq r ≤ 159990 := hroom
        have nqr := nq_pos r
        unfold pv_5_takeMark
        refine ⟨fun _ => ⟨fun z => absurd c41 z, fun _ => ?_⟩, fun z => absurd (show c ≠ 46 by omega) z⟩
        intro v8 e8 _
        refine ⟨fun z => by omega, fun _ => ?_⟩
        intro v9 e9 _ _ _ v10 e10 _
        rw [e9] at e10
        rw [e10]
        refine pv_5_takeMark_42_i (fun x2 y => ∃ j : Nat, j ≤ f.1.length ∧ CG f8In f8Ir u y ∧ y.1 18 = u.2.1 24 (u.1 17) + (j : Int) ∧ (∀ k, k ≠ 18 → k ≠ 29 → y.1 k = u.1 k) ∧ (∀ k, (k < 27 ∨ 30 < k) → y.2.1 k = u.2.1 k) ∧ VN y x2 ∧ oc y x2 = Sp.ofL (f.1.drop j) (if f.2.1 = 2 then f.2.2 else Ob.nil) ∧ y.1 29 ≤ u.1 29 + ((f.1.length : Int) - (j : Int))) ?_ ⟨f.1.length, Nat.le_refl _, CG.rf hT, a3.symm, fun _ _ _ => rfl, fun _ _ => rfl, a6, by rw [List.drop_length]; exact a6', by omega⟩
        rintro x2 y ⟨j, hj, gy, y18, yn, yr, vy, ey, y29⟩
        have y17 : y.1 17 = u.1 17 := yn 17 (by decide) (by decide)
        have done : j = 0 → pv_5_takeMark_99 Q x2 y := fun j0 => by
          rw [j0, List.drop_zero] at ey
          unfold pv_5_takeMark_99
          intro v14 e14 _ _ z ez
          rw [y17] at e14
          have gz : CG f8In f8Ir y z := by rw [ez]; exact CG_I gy.1 (by decide) (by decide)
          have zn : ∀ k, k ≠ 17 → z.1 k = y.1 k := fun k hk => by rw [ez, iIc_ne _ _ hk]
          have z17 : z.1 17 = u.1 17 - 1 := by rw [ez, iIc_at, e14]
          have z18 : z.1 18 = u.2.1 24 (u.1 17) := by rw [zn 18 (by decide), y18, j0]; show _ + 0 = _; omega
          have zr : ∀ k, (k < 27 ∨ 30 < k) → z.2.1 k = u.2.1 k := fun k hk => by rw [ez]; exact yr k hk
          have guz := gy.tr gz
          have ez2 : oc z x2 = oc y x2 := oc_same (by rw [ez]; rfl) x2
          have hFr : FrC z r (z.1 17) (z.1 18) := by
            rw [z17, z18]
            exact a7.mono hT guz (fun i _ => ⟨by rw [zr 23 (by omega)], by rw [zr 24 (by omega)], by rw [zr 25 (by omega)]⟩) (fun i _ => by rw [zr 26 (by omega)])
          have hW0 : z.2.1 23 0 = 0 := by
            rw [zr 23 (by omega)]
            rw [hwn] at hW
            exact hW
          have z29 : z.1 29 = y.1 29 := zn 29 (by decide)
          refine pc_deliver gz.1 (vy.up gz) hFr hW0 hN.1 hN.2 (by omega) (by omega) (fun v hv => hq v ?_)
          obtain ⟨k1, k2, k3, k4, k5, k6⟩ := hv
          rw [ez2, ey] at k2 k6
          have em : st' = Sp.rdDel none r (Sp.ofL f.1 (if f.2.1 = 2 then f.2.2 else Ob.nil)) := by rw [hm, hwn]
          rw [← em] at k2 k6
          refine ⟨guz.tr k1, k2, ?_, ?_, by omega, ?_⟩
          · rw [k3, zn 19 (by decide)]; exact yn 19 (by decide) (by decide)
          · rw [k4, zn 21 (by decide)]; exact yn 21 (by decide) (by decide)
          · show v.1 29 + v.1 18 + 2 * nq st'.1 ≤ u.1 29 + u.1 18 + 2 * nq r + 2
            rw [j0] at y29
            have y29 : y.1 29 ≤ u.1 29 + ((f.1.length : Int) - 0) := y29
            omega
        unfold pv_5_takeMark_42b
        intro v11 e11 _ v12 e12 _ _ _ v13 e13 _
        rw [y17] at e12
        rw [e12, yr 24 (by omega)] at e13
        refine ⟨fun z => done (by omega), fun z => ?_⟩
        intro v17 e17 _
        refine ⟨fun z2 => by omega, fun _ => ?_⟩
        obtain ⟨i, ei⟩ : ∃ i : Nat, j = i + 1 := ⟨j - 1, by omega⟩
        intro v18 e18 _ _ z1 ez1 v20 e20 _ _ _ v21 e21 _
        have g1 : CG f8In f8Ir y z1 := by rw [ez1]; exact CG_I gy.1 (by decide) (by decide)
        have z118 : z1.1 18 = u.2.1 24 (u.1 17) + (i : Int) := by rw [ez1, iIc_at, e18, y18, ei]; omega
        rw [z118] at e20
        have z1r : ∀ k, (k < 27 ∨ 30 < k) → z1.2.1 k = u.2.1 k := fun k hk => by rw [ez1]; exact yr k hk
        rw [e20, z1r 26 (by omega)] at e21
        have v21u := a4 (u.2.1 24 (u.1 17) + (i : Int)) (by omega) (by omega)
        rw [← e21] at v21u
        have gu1 := gy.tr g1
        have z1n : ∀ k, k ≠ 18 → z1.1 k = y.1 k := fun k hk => by rw [ez1, iIc_ne _ _ hk]
        have z129 : z1.1 29 = y.1 29 := z1n 29 (by decide)
        refine pc_pair g1.1 (v21u.up gu1) (vy.up g1) (by omega) (fun t w2 g2 vt et h2 => ?_)
        have gI : CG f8In f8Ir z1 w2 := g2.mono f8M_I f8R_I
        refine ⟨i, by omega, gu1.tr gI, ?_, fun k h1 h2' => ?_, fun k hk => ?_, vt, ?_, by omega⟩
        · rw [g2.2.2.1 18 (by decide)]; exact z118
        · rw [g2.2.2.1 k (by unfold f8M; exact decide_eq_false h2'), z1n k h1]
          exact yn k h1 h2'
        · rw [g2.2.2.2 k (by unfold f8R; exact decide_eq_false (by omega))]
          exact z1r k hk
        · have ei' : (f.1)[i]? = some (oc u v21) := by
            have := lsC_get u (u.2.1 26) (u.2.1 24 (u.1 17)) f.1.length (i := i) (by omega)
            rw [a5, ← e21] at this
            exact this
          rw [et, oc_same (u := y) (v := z1) (by rw [ez1]; rfl) x2, ey, gu1.oc hT v21u.1 v21u.2, ei, drop_of ei']
          rfl
  rw [if_neg c41] at hm
  by_cases c46 : c = 46
  · -- a point
    rw [if_pos c46] at hm
    cases l with
    | nil => cases hm
    | cons f r =>
      cases f with
      | none => cases hm
      | some f =>
        have hm : (if f.2.1 = 0 ∧ f.1.isEmpty = false then some (some (f.1, 1, f.2.2) :: r, w) else none) = some st' := hm
        by_cases f0 : f.2.1 = 0 ∧ f.1.isEmpty = false
        · rw [if_pos f0] at hm
          have hm := (Option.some.inj hm).symm
          obtain ⟨a0, a1, a2, a3, a4, a5, ⟨a6, a6'⟩, a7⟩ := hF
          unfold pv_5_takeMark
          refine ⟨fun z => absurd c46 z, fun _ => ?_⟩
          intro v24 e24 _ _ _ y ey
          rw [e24] at ey
          have g : CG f8In f8Ir u y := by rw [ey]; exact CG_A hT (by omega) (by decide)
          have yn : y.1 = u.1 := by rw [ey]; rfl
          have r23 : ∀ i, y.2.1 23 i = if i = u.1 17 then 3 else u.2.1 23 i := fun i => by rw [ey]; rfl
          have ro : ∀ k, k ≠ 23 → y.2.1 k = u.2.1 k := fun k hk => by rw [ey]; exact iAc_ne _ _ _ hk
          have c2 : ∀ k, oc y k = oc u k := fun k => oc_same (by rw [ey]; rfl) k
          have hwn : w = none := hWn (by intro z; cases z)
          rw [hm] at hq
          refine hq y ⟨g, ⟨⟨by rw [yn]; exact a0, ?_, Or.inr (Or.inl rfl), ?_, fun i i0 i1 => ?_, ?_, ?_, ?_⟩, ?_, fun _ => hwn, hN⟩, by rw [yn], by rw [yn], by rw [yn]; omega, ?_⟩
          · rw [yn, r23, if_pos rfl]; rfl
          · rw [yn, ro 24 (by decide)]; exact a3
          · rw [yn, ro 24 (by decide)] at i0
            rw [yn] at i1
            rw [ro 26 (by decide)]; exact (a4 i i0 i1).up g
          · rw [yn, ro 24 (by decide), ro 26 (by decide)]
            exact (lsC_congr (fun i _ => c2 _)).trans a5
          · rw [yn, ro 25 (by decide)]
            rw [if_neg (by omega)] at a6'
            exact ⟨a6.up g, by rw [c2]; exact a6'⟩
          · rw [yn, ro 24 (by decide)]
            refine a7.mono hT g (fun i hi => ⟨?_, by rw [ro 24 (by decide)], by rw [ro 25 (by decide)]⟩) (fun i _ => by rw [ro 26 (by decide)])
            rw [r23, if_neg (by omega)]
          · rw [hwn] at hW ⊢
            show y.2.1 23 0 = 0
            rw [r23, if_neg (by omega)]
            exact hW
          · rw [yn]
            show u.1 29 + u.1 18 + 2 * nq r ≤ u.1 29 + u.1 18 + 2 * nq r + 2
            omega
        · rw [if_neg f0] at hm; cases hm
  rw [if_neg c46] at hm
  cases hm
