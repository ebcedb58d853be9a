-- deps: 559
/-! the reference: a word, a text is read -/
theorem p_bad [DecidableEq Ob] {a b : Int} {Q : iST → Prop} {u : iST} (hT : TI u) (hU : TU u) (h24 : u.1 24 = 0) (hq : ∀ v, GZ f7Rd u v → v.1 24 = a → v.1 23 = u.1 23 → Q v) : pw_bad a b Q u := by
  unfold pw_bad
  intro x ex _
  rw [ex]
  refine ⟨fun _ => ?_, fun z => absurd h24 z⟩
  intro y ey z ez
  have g1 : GZ f7Rd u y := by rw [ey]; exact GZ_eq (GZ.rf hT hU) (fun k hk => ⟨if_neg (by omega), rfl⟩) rfl (Fx_I (by decide))
  have g2 : GZ f7Rd y z := by rw [ez]; exact GZ_eq (GZ.rf g1.1 g1.2.1) (fun k hk => ⟨if_neg (by omega), rfl⟩) rfl (Fx_I (by decide))
  exact hq z (g1.tr g2) (by rw [ez, ey]; rfl) (by rw [ez, ey]; rfl)
theorem p_mayBegin [DecidableEq Ob] {Q : Int → iST → Prop} {u : iST} {st : Sp.Rd} (hR : RdR u st) (h : ∀ r, bq r (Sp.rdBeg st) → Q r u) : pw_mayBegin Q u := by
  obtain ⟨l, w⟩ := st
  obtain ⟨hF, hW⟩ := hR
  unfold pw_mayBegin
  intro a ea _
  rw [ea]
  cases l with
  | nil =>
    have hF : u.1 30 = 0 ∧ u.1 32 = 0 := hF
    refine ⟨fun z => absurd hF.1 z, fun _ => ?_⟩
    intro b eb _
    rw [eb]
    cases w with
    | none =>
      have hW : u.1 34 = 0 := hW
      exact ⟨fun z => absurd hW z, fun _ _ => h 1 (bq1 rfl)⟩
    | some o =>
      have hW : u.1 34 ≠ 0 ∧ _ := hW
      exact ⟨fun _ _ => h 0 (bq0 rfl), fun z => absurd hW.1 z⟩
  | cons t r =>
    cases t with
    | none =>
      obtain ⟨h1, h2, h3⟩ := hF
      refine ⟨fun _ => ?_, fun z => absurd (show ¬ u.1 30 = 0 by omega) z⟩
      intro b eb _ _ _ _ s es _
      rw [eb] at es
      rw [es]
      exact ⟨fun _ _ => h 1 (bq1 rfl), fun z => absurd h2 z⟩
    | some f =>
      obtain ⟨h1, h2, h3, h4, h5, h6, h7, h8, h9⟩ := hF
      refine ⟨fun _ => ?_, fun z => absurd (show ¬ u.1 30 = 0 by omega) z⟩
      intro b eb _ _ _ _ s es _
      rw [eb] at es
      rw [es, h2]
      refine ⟨(fun z => by cases z), fun _ => ?_⟩
      intro c ec _ _ _ _ t et _
      rw [ec] at et
      rw [et, h3]
      exact ⟨fun z _ => h 0 (bq0 (decide_eq_false (by show ¬ f.2.1 < 2; omega))), fun z _ => h 1 (bq1 (decide_eq_true (by show f.2.1 < 2; omega)))⟩
theorem p_isInList [DecidableEq Ob] {Q : Int → iST → Prop} {u : iST} {st : Sp.Rd} (hR : RdR u st) (h0 : (∀ f r, st.1 ≠ some f :: r) → Q 0 u) (h1 : ∀ f r, st.1 = some f :: r → Q 1 u) : pw_isInList Q u := by
  obtain ⟨l, w⟩ := st
  obtain ⟨hF, hW⟩ := hR
  unfold pw_isInList
  intro a ea _
  rw [ea]
  cases l with
  | nil =>
    have hF : u.1 30 = 0 ∧ u.1 32 = 0 := hF
    exact ⟨fun _ _ => h0 (fun f r z => by cases z), fun z => by omega⟩
  | cons t r =>
    cases t with
    | none =>
      obtain ⟨q1, q2, q3⟩ := hF
      refine ⟨fun z => by omega, fun _ => ?_⟩
      intro b eb _ _ _ _ s es _
      rw [eb] at es
      rw [es, q2]
      exact ⟨fun _ _ => h0 (fun f r z => by cases z), fun z => absurd (by decide) z⟩
    | some f =>
      obtain ⟨q1, q2, _⟩ := hF
      refine ⟨fun z => by omega, fun _ => ?_⟩
      intro b eb _ _ _ _ s es _
      rw [eb] at es
      rw [es, q2]
      exact ⟨fun z => absurd rfl z, fun _ _ => h1 f r rfl⟩
theorem p_begin [DecidableEq Ob] {a : Int} {Q : iST → Prop} {u : iST} {st : Sp.Rd} (hT : TI u) (hU : TU u) (hR : RdR u st) (ha : a = 0 ∨ a = 1) (hq : ∀ v, GZ f7Rd u v → RdR v ((if a = 1 then none else some ([], 0, Ob.nil)) :: st.1, st.2) → v.1 23 = u.1 23 → v.1 24 = u.1 24 → Q v) : pw_begin a Q u := by
  obtain ⟨l, w⟩ := st
  obtain ⟨hF, hW⟩ := hR
  have hF : FrR u l (u.1 30) (u.1 32) := hF
  have hlen := hF.len
  unfold pw_begin
  intro x1 e1 _ _ _ y1 ey1 x2 e2 _ x3 e3 _ _ _ y2 ey2 x4 e4 _ _ _ y3 ey3 x5 e5 _ _ y4 ey4
  have e2 : x2 = u.1 30 := by rw [e2, ey1]; rfl
  have e3 : x3 = u.1 32 := by rw [e3, ey1]; rfl
  have e4 : x4 = u.1 30 := by rw [e4, ey2, ey1]; rfl
  have e5 : x5 = u.1 30 := by rw [e5, ey3, ey2, ey1]; rfl
  rw [e1] at ey1
  rw [e2, e3] at ey2
  rw [e4] at ey3
  rw [e5] at ey4
  have g1 : GZ f7Rd u y1 := by rw [ey1]; exact GZ_eq (GZ.rf hT hU) (fun k hk => ⟨rfl, if_neg (by omega)⟩) rfl (Fx_A (by decide))
  have g2 : GZ f7Rd y1 y2 := by rw [ey2]; exact GZ_eq (GZ.rf g1.1 g1.2.1) (fun k hk => ⟨rfl, if_neg (by omega)⟩) rfl (Fx_A (by decide))
  have g3 : GZ f7Rd y2 y3 := by rw [ey3]; exact GZ_eq (GZ.rf g2.1 g2.2.1) (fun k hk => ⟨rfl, if_neg (by omega)⟩) rfl (Fx_A (by decide))
  have g4 : GZ f7Rd y3 y4 := by rw [ey4]; exact GZ_eq (GZ.rf g3.1 g3.2.1) (fun k hk => ⟨if_neg (by omega), rfl⟩) rfl (Fx_I (by decide))
  have g := ((g1.tr g2).tr g3).tr g4
  have yn : ∀ k, k ≠ 30 → y4.1 k = u.1 k := fun k hk => by rw [ey4, ey3, ey2, ey1]; exact if_neg hk
  have y30 : y4.1 30 = u.1 30 + 1 := by rw [ey4]; rfl
  have yr : ∀ k, k ≠ 26 → k ≠ 27 → k ≠ 28 → y4.2.1 k = u.2.1 k := fun k h6 h7 h8 => by rw [ey4, ey3, ey2, ey1]; exact (if_neg h8).trans ((if_neg h7).trans (if_neg h6))
  have y26 : ∀ j, y4.2.1 26 j = if j = u.1 30 then a else u.2.1 26 j := fun j => by rw [ey4, ey3, ey2, ey1]; rfl
  have y27 : ∀ j, y4.2.1 27 j = if j = u.1 30 then u.1 32 else u.2.1 27 j := fun j => by rw [ey4, ey3, ey2, ey1]; rfl
  have y28 : ∀ j, y4.2.1 28 j = if j = u.1 30 then 0 else u.2.1 28 j := fun j => by rw [ey4, ey3, ey2, ey1]; rfl
  have hm : FrR y4 l (u.1 30) (u.1 32) := FrR.mono hT g hF (fun i hi => ⟨by rw [y26, if_neg (by omega)], by rw [y27, if_neg (by omega)], by rw [y28, if_neg (by omega)], by rw [yr 29 (by decide) (by decide) (by decide)]⟩) (fun i hi => by rw [yr 31 (by decide) (by decide) (by decide)])
  refine hq y4 g ⟨?_, hW.mono hT g (yn 33 (by decide)) (yn 34 (by decide))⟩ (yn 23 (by decide)) (yn 24 (by decide))
  rw [y30, yn 32 (by decide)]
  rcases ha with q | q
  · rw [q, if_neg (by decide)]
    show 0 < u.1 30 + 1 ∧ y4.2.1 26 (u.1 30 + 1 - 1) = 0 ∧ y4.2.1 28 (u.1 30 + 1 - 1) = 0 ∧ ((0 : Int) ≤ 0 ∧ (0 : Int) ≤ 2) ∧ y4.2.1 27 (u.1 30 + 1 - 1) + ((0 : Nat) : Int) = u.1 32 ∧ (∀ i, y4.2.1 27 (u.1 30 + 1 - 1) ≤ i → i < u.1 32 → 0 ≤ y4.2.1 31 i ∧ y4.2.1 31 i < y4.1 8) ∧ ls y4 (y4.2.1 31) (y4.2.1 27 (u.1 30 + 1 - 1)) 0 = [] ∧ ((0 : Int) = 2 → 0 ≤ y4.2.1 29 (u.1 30 + 1 - 1) ∧ y4.2.1 29 (u.1 30 + 1 - 1) < y4.1 8 ∧ ob y4 (y4.2.1 29 (u.1 30 + 1 - 1)) = Ob.nil) ∧ FrR y4 l (u.1 30 + 1 - 1) (y4.2.1 27 (u.1 30 + 1 - 1))
    rw [show u.1 30 + 1 - 1 = u.1 30 by omega, y26, y27, y28, if_pos rfl, if_pos rfl, if_pos rfl]
    exact ⟨by omega, q, rfl, by decide, by omega, fun i i0 i1 => by omega, rfl, (fun z => by cases z), hm⟩
  · rw [if_pos q]
    show 0 < u.1 30 + 1 ∧ y4.2.1 26 (u.1 30 + 1 - 1) = 1 ∧ FrR y4 l (u.1 30 + 1 - 1) (u.1 32)
    rw [show u.1 30 + 1 - 1 = u.1 30 by omega, y26, if_pos rfl]
    exact ⟨by omega, q, hm⟩
theorem tx_atm [DecidableEq Ob] {u : iST} {p : Int} (hp : p ≤ u.1 14) (hs : p < u.1 14 → Sp.isAtm (u.2.1 13 p) = false) : ∀ (n : Nat) (a : Int), (p - a).toNat = n → a ≤ p → (∀ i, a ≤ i → i < p → Sp.isAtm (u.2.1 13 i) = true) → (tx u a).takeWhile Sp.isAtm = tw u a p ∧ (tx u a).dropWhile Sp.isAtm = tx u p
  | 0, a, hn, ha, _ => by
    have e : a = p := by omega
    rw [e, tw_nil (Int.le_refl _)]
    by_cases q : p < u.1 14
    · rw [tx_cons q, List.takeWhile_cons, List.dropWhile_cons, hs q]
      exact ⟨rfl, rfl⟩
    · rw [tx_nil (by omega)]
      exact ⟨rfl, rfl⟩
  | n + 1, a, hn, ha, hi => by
    obtain ⟨i1, i2⟩ := tx_atm hp hs n (a + 1) (by omega) (by omega) (fun i i0 i1 => hi i (by omega) i1)
    rw [tx_cons (show a < u.1 14 by omega), List.takeWhile_cons, List.dropWhile_cons, hi a (Int.le_refl _) (by omega), if_pos rfl, if_pos rfl, i1, i2, tw_cons (show a < p by omega)]
    exact ⟨rfl, rfl⟩
/-- what comes of a word -/
def WdO [DecidableEq Ob] (u v : iST) (R : Option Ob) (k : Nat) : Prop := GZ f7Rd u v ∧ u.1 23 ≤ v.1 23 ∧ ((v.1 24 ≠ 0 ∧ R = none) ∨ (v.1 24 = 0 ∧ ∃ st', RdR v st' ∧ R = Sp.rd (tx v (v.1 23)) k st'))
theorem p_readWord [DecidableEq Ob] {a : Int} {k : Nat} {Q : iST → Prop} {u : iST} {st : Sp.Rd} (hT : TI u) (hU : TU u) (hR : RdR u st) (h24 : u.1 24 = 0) (hlt : u.1 23 < u.1 14) (hc : u.2.1 13 (u.1 23) ≠ 59 ∧ ¬ (u.2.1 13 (u.1 23) = 32 ∨ u.2.1 13 (u.1 23) = 10)) (ha : a = (k : Int) + 1)
    (hq : ∀ v, WdO u v (Sp.rd (tx u (u.1 23)) k st) (k + 1) → Q v) : pw_readWord a Q u := by
  have ecs := tx_cons hlt
  -- late or not
  have main : ∀ y0 : Int, (y0 = 0 ↔ k < 1000) → pw_readWord_27 Q (u.1 23) (u.2.1 13 (u.1 23)) y0 u := by
    intro y0 hy0
    unfold pw_readWord_27
    intro x ex _ _ t et
    rw [ex] at et
    have gt : GZ f7Rd u t := by rw [et]; exact GZ_eq (GZ.rf hT hU) (fun k hk => ⟨if_neg (by omega), rfl⟩) rfl (Fx_I (by decide))
    have tn : ∀ k, k ≠ 23 → t.1 k = u.1 k := fun k hk => by rw [et]; exact if_neg hk
    have t2 : t.2 = u.2 := by rw [et]; rfl
    have t23 : t.1 23 = u.1 23 + 1 := by rw [et]; rfl
    have t24 : t.1 24 = 0 := by rw [tn 24 (by decide)]; exact h24
    have etx : ∀ p, tx t p = tx u p := fun p => tx_same (tn 14 (by decide)) (by rw [t2]) p
    have rT : RdR t st := by
      refine ⟨?_, hR.2.mono hT gt (tn 33 (by decide)) (tn 34 (by decide))⟩
      rw [tn 30 (by decide), tn 32 (by decide)]
      exact FrR.mono hT gt hR.1 (fun i hi => by rw [t2]; exact ⟨rfl, rfl, rfl, rfl⟩) (fun i hi => by rw [t2])
    have hlen := rT.1.len
    have bad : ∀ (m : Int), m ≠ 0 → ∀ v, GZ f7Rd t v → v.1 24 = 0 → v.1 23 = t.1 23 → Sp.rd (tx u (u.1 23)) k st = none → pw_bad m (u.1 23) (fun u => Q u) v := by
      intro m hm v gv v24 v23 hn
      refine p_bad gv.1 gv.2.1 v24 (fun z gz z24 z23 => hq z ⟨(gt.tr gv).tr gz, by omega, Or.inl ⟨by rw [z24]; exact hm, hn⟩⟩)
    have good : ∀ st' v, GZ f7Rd t v → v.1 24 = 0 → v.1 23 = t.1 23 → RdR v st' → Sp.rd (tx u (u.1 23)) k st = Sp.rd (tx u (u.1 23 + 1)) (k + 1) st' → Q v := by
      intro st' v gv v24 v23 rv hn
      have g := gt.tr gv
      refine hq v ⟨g, by omega, Or.inr ⟨v24, st', rv, ?_⟩⟩
      rw [hn, v23, t23]
      exact congrArg (fun z => Sp.rd z (k + 1) st') (tx_same (g.2.2.2.2 14 (by decide)).1 (g.2.2.2.2 13 (by decide)).2 _).symm
    have mrk : Sp.isAtm (u.2.1 13 (u.1 23)) = false → Sp.rd (tx u (u.1 23)) k st = (match Sp.rdMark (u.2.1 13 (u.1 23)) st with | some st' => if k < 1000 then Sp.rd (tx u (u.1 23 + 1)) (k + 1) st' else none | none => none) := fun h => by
      rw [ecs]; exact rd_mrk h hc.1 hc.2 _ _ _
    have mrkN : Sp.isAtm (u.2.1 13 (u.1 23)) = false → Sp.rdMark (u.2.1 13 (u.1 23)) st = none → Sp.rd (tx u (u.1 23)) k st = none := fun h h1 => by rw [mrk h, h1]
    have mrkL : Sp.isAtm (u.2.1 13 (u.1 23)) = false → ¬ y0 = 0 → Sp.rd (tx u (u.1 23)) k st = none := fun h h1 => by
      rw [mrk h]
      cases Sp.rdMark (u.2.1 13 (u.1 23)) st with
      | none => rfl
      | some s => exact if_neg (fun z => h1 (hy0.mpr z))
    have mrkS : ∀ st', Sp.isAtm (u.2.1 13 (u.1 23)) = false → Sp.rdMark (u.2.1 13 (u.1 23)) st = some st' → y0 = 0 → Sp.rd (tx u (u.1 23)) k st = Sp.rd (tx u (u.1 23 + 1)) (k + 1) st' := fun st' h h1 h2 => by
      rw [mrk h, h1]
      exact if_pos (hy0.mp h2)
    -- ( and '
    have opn' : ∀ q : Bool, u.2.1 13 (u.1 23) = (if q then 39 else 40) → pw_readWord_51 Q (u.1 23) (u.2.1 13 (u.1 23)) y0 t := by
      intro q hqc
      have hna : Sp.isAtm (u.2.1 13 (u.1 23)) = false := isAtm_f (by rw [hqc]; cases q <;> decide)
      have hm : Sp.rdMark (u.2.1 13 (u.1 23)) st = Sp.rdOpen q st := by
        unfold Sp.rdMark
        rw [hqc]
        cases q with
        | true => rw [if_neg (by decide), if_pos (by decide)]
        | false => rw [if_pos (by decide)]
      unfold pw_readWord_51
      refine p_mayBegin rT (fun r hr => ⟨fun hz => ?_, fun hz => bad 3 (by decide) t (GZ.rf gt.1 gt.2.1) t24 rfl (mrkN hna ?_)⟩)
      rotate_left
      · rw [hm]; unfold Sp.rdOpen
        rw [hr.f (Decidable.not_not.mp hz)]
        rfl
      have hb := hr.t hz
      intro c ec _
      rw [ec]
      refine ⟨fun h40 => ?_, fun h40 => bad 4 (by decide) t (GZ.rf gt.1 gt.2.1) t24 rfl (mrkN hna ?_)⟩
      rotate_left
      · rw [hm]; unfold Sp.rdOpen
        rw [hb, decide_eq_false (by have := Decidable.not_not.mp h40; omega)]
        rfl
      refine ⟨fun hl => ?_, fun hl => bad 5 (by decide) t (GZ.rf gt.1 gt.2.1) t24 rfl (mrkL hna hl)⟩
      have hop : ∀ (s : Int), (s = 0 ∨ s = 1) → (s = 1 ↔ q = true) → pw_readWord_111 Q s t := by
        intro s hs hsq
        unfold pw_readWord_111
        intro c1 e1 hin c10 c11
        have hlt40 : st.1.length < 40 := by omega
        refine (p_begin (a := s) (Q := fun u => Q u) gt.1 gt.2.1 rT hs (fun v gv rv v23 v24 => good _ v gv (by rw [v24]; exact t24) v23 rv (mrkS _ hna ?_ hl))) c1 e1 hin c10 c11
        rw [hm]; unfold Sp.rdOpen
        rw [hb, decide_eq_true hlt40]
        refine congrArg some ?_
        cases q with
        | true =>
          have e1 : s = 1 := hsq.mpr rfl
          rw [e1]; rfl
        | false =>
          have e1 : ¬ s = 1 := fun z => by cases hsq.mp z
          show _ = ((if s = 1 then none else some ([], 0, Ob.nil)) :: st.1, st.2)
          rw [if_neg e1]; rfl
      cases q with
      | true => exact ⟨fun _ => hop 1 (Or.inr rfl) ⟨fun _ => rfl, fun _ => rfl⟩, fun z => absurd (show u.2.1 13 (u.1 23) ≠ 40 by rw [hqc]; decide) z⟩
      | false => exact ⟨fun z => absurd hqc z, fun _ => hop 0 (Or.inl rfl) ⟨(fun z => by cases z), fun z => by cases z⟩⟩
    refine ⟨fun h40 => opn' false h40, fun h40 => ⟨fun h39 => ⟨fun h41 => ⟨fun h46 => ?_, fun h46 => ?_⟩, fun h41 => ?_⟩, fun h39 => opn' true (Decidable.not_not.mp h39)⟩⟩
    · -- an atom, or nothing
      refine p_isAtom (fun r hr => ⟨fun hz => ?_, fun hz => bad 1 (by decide) t (GZ.rf gt.1 gt.2.1) t24 rfl (mrkN (hr.f (Decidable.not_not.mp hz)) ?_)⟩)
      rotate_left
      · unfold Sp.rdMark
        rw [if_neg h40, if_neg h39, if_neg h41, if_neg h46]
      have hat := hr.t hz
      have erd := rd_atm hat hc.1 hc.2 (tx u (u.1 23 + 1)) k st
      rw [← ecs] at erd
      refine pw_readWord_274_i (fun x2 x4 y => x2 = u.1 23 ∧ x4 = y0 ∧ (∀ k, k ≠ 23 → y.1 k = u.1 k) ∧ y.2 = u.2 ∧ u.1 23 < y.1 23 ∧ y.1 23 ≤ u.1 14 ∧ ∀ i, u.1 23 ≤ i → i < y.1 23 → Sp.isAtm (u.2.1 13 i) = true) ?_ ⟨rfl, rfl, tn, t2, by omega, by omega, fun i i0 i1 => by rw [show i = u.1 23 by omega]; exact hat⟩
      rintro x2 x4 y ⟨e2, e4, yn, y2, b0, b1, hall⟩
      rw [e2, e4]
      have gy : GZ f7Rd u y := GZ_eq (GZ.rf hT hU) (fun k hk => ⟨yn k (by omega), by rw [y2]⟩) (by rw [y2]) (fun k hk => ⟨yn k (fun z => by rw [z] at hk; cases hk), by rw [y2]⟩)
      have y24 : y.1 24 = 0 := by rw [yn 24 (by decide)]; exact h24
      have rY : RdR y st := by
        refine ⟨?_, hR.2.mono hT gy (yn 33 (by decide)) (yn 34 (by decide))⟩
        rw [yn 30 (by decide), yn 32 (by decide)]
        exact FrR.mono hT gy hR.1 (fun i hi => by rw [y2]; exact ⟨rfl, rfl, rfl, rfl⟩) (fun i hi => by rw [y2])
      have fin : (y.1 23 < u.1 14 → Sp.isAtm (u.2.1 13 (y.1 23)) = false) → pw_readWord_313 Q (u.1 23) y0 y := by
        intro hs
        obtain ⟨k1, k2⟩ := tx_atm b1 hs _ (u.1 23) rfl (by omega) hall
        have k2' : (tx u (u.1 23 + 1)).dropWhile Sp.isAtm = tx u (y.1 23) := by
          rw [← k2, ecs, List.dropWhile_cons, hat, if_pos rfl]
        rw [k1, k2'] at erd
        have etw : tw y (u.1 23) (y.1 23) = tw u (u.1 23) (y.1 23) := by unfold tw; rw [y2]
        unfold pw_readWord_313
        intro c ec _
        rw [ec]
        refine p_atom gy.1 gy.2.1 (by omega) (fun i i0 i1 => by rw [y2]; exact hall i i0 i1) (fun r2 v gv hv => ?_)
        rw [etw] at hv
        have guv := gy.tr (gv.mono f7Wd_Rd)
        have vn : ∀ k, f7Wd k = false → v.1 k = y.1 k ∧ v.2.1 k = y.2.1 k := gv.2.2.2.2
        have v24 : v.1 24 = 0 := by rw [(vn 24 (by decide)).1]; exact y24
        have v23 : v.1 23 = y.1 23 := (vn 23 (by decide)).1
        have rV : RdR v st := by
          refine ⟨?_, rY.2.mono gy.1 gv (vn 33 (by decide)).1 (vn 34 (by decide)).1⟩
          rw [(vn 30 (by decide)).1, (vn 32 (by decide)).1]
          exact FrR.mono gy.1 gv rY.1 (fun i hi => ⟨by rw [(vn 26 (by decide)).2], by rw [(vn 27 (by decide)).2], by rw [(vn 28 (by decide)).2], by rw [(vn 29 (by decide)).2]⟩) (fun i hi => by rw [(vn 31 (by decide)).2])
        have badV : ∀ (m : Int), m ≠ 0 → Sp.rd (tx u (u.1 23)) k st = none → pw_bad m (u.1 23) (fun u => Q u) v := fun m hm hn => p_bad guv.1 guv.2.1 v24 (fun z gz z24 z23 => hq z ⟨guv.tr gz, by omega, Or.inl ⟨by rw [z24]; exact hm, hn⟩⟩)
        refine ⟨fun hr2 => ?_, fun hr2 => badV 2 (by decide) ?_⟩
        rotate_left
        · rcases hv with ⟨q, _⟩ | ⟨q, _⟩
          · rw [erd, q]
          · have := Decidable.not_not.mp hr2; omega
        obtain ⟨v0, v1, ev⟩ := hv.resolve_left (fun q => hr2 q.2)
        rw [ev] at erd
        have erd : Sp.rd (tx u (u.1 23)) k st = (if Sp.rdBeg st && decide (k < 1000) then Sp.rd (tx u (y.1 23)) (k + 1) (Sp.rdDel st.2 st.1 (ob v r2)) else none) := erd
        refine p_mayBegin rV (fun r3 hr3 => ⟨fun hz3 => ⟨fun hl => ?_, fun hl => badV 5 (by decide) ?_⟩, fun hz3 => badV 3 (by decide) ?_⟩)
        · refine p_deliver (l := st.1) (w := st.2) guv.1 guv.2.1 v0 v1 rV.1 rV.2 (fun z gz rz z23 z24 => hq z ⟨guv.tr gz, by omega, Or.inr ⟨by rw [z24]; exact v24, _, rz, ?_⟩⟩)
          rw [erd, hr3.t hz3, decide_eq_true (hy0.mp hl), z23, v23]
          have g := guv.tr gz
          exact congrArg (fun q => Sp.rd q (k + 1) (Sp.rdDel st.2 st.1 (ob v r2))) (tx_same (g.2.2.2.2 14 (by decide)).1 (g.2.2.2.2 13 (by decide)).2 _).symm
        · rw [erd, decide_eq_false (fun z => hl (hy0.mpr z)), Bool.and_false]
          rfl
        · rw [erd, hr3.f (Decidable.not_not.mp hz3)]
          rfl
      unfold pw_readWord_274b
      intro c ec _ d ed _
      rw [ec, ed]
      refine ⟨fun hge => fin (fun z => by rw [yn 14 (by decide)] at hge; omega), fun hlt2 => ?_⟩
      rw [yn 14 (by decide)] at hlt2
      intro e ee _ _ _ g eg _
      rw [ee, y2] at eg
      rw [eg]
      refine p_isAtom (fun r2 hr2 => ⟨fun hz2 => fin (fun _ => hr2.f hz2), fun hz2 => ?_⟩)
      intro h eh _ _ z ez
      rw [eh] at ez
      have z23 : z.1 23 = y.1 23 + 1 := by rw [ez]; rfl
      refine ⟨rfl, rfl, fun k hk => by rw [ez]; exact (if_neg hk).trans (yn k hk), by rw [ez]; exact y2, by omega, by omega, fun i i0 i1 => ?_⟩
      by_cases q : i < y.1 23
      · exact hall i i0 q
      · rw [show i = y.1 23 by omega]; exact hr2.t hz2
    · -- a point
      have h46 := Decidable.not_not.mp h46
      have hna : Sp.isAtm (u.2.1 13 (u.1 23)) = false := isAtm_f (by rw [h46]; decide)
      have hm : Sp.rdMark (u.2.1 13 (u.1 23)) st = Sp.rdDot st := by
        unfold Sp.rdMark
        rw [if_neg h40, if_neg h39, if_neg h41, if_pos h46]
      have no : Sp.rdDot st = none → pw_readWord_220 Q (u.1 23) t := fun h => bad 3 (by decide) t (GZ.rf gt.1 gt.2.1) t24 rfl (mrkN hna (hm.trans h))
      refine p_isInList rT (fun h0 => ⟨fun _ => no ?_, fun z => absurd rfl z⟩) (fun f r hfr => ⟨(fun z => by cases z), fun _ => ?_⟩)
      · unfold Sp.rdDot
        cases e : st.1 with
        | nil => rfl
        | cons x y => cases x with
          | none => rfl
          | some f => exact absurd e (h0 f y)
      · have hF := rT.1
        rw [hfr] at hF
        have hF' := hF
        obtain ⟨q1, q2, q3, q4, q5, q6, q7, q8, q9⟩ := hF
        have hdot : Sp.rdDot st = (if f.2.1 = 0 ∧ f.1.isEmpty = false then some (some (f.1, 1, f.2.2) :: r, st.2) else none) := by
          unfold Sp.rdDot; rw [hfr]
        intro b eb _ _ _ _ s es _
        rw [eb] at es
        rw [es, q3]
        refine ⟨fun hs => no ?_, fun hs => ?_⟩
        · rw [hdot, if_neg (fun z => hs z.1)]
        have hs := Decidable.not_not.mp hs
        intro c ec _ d ed _ _ _ _ e ee _
        rw [ed] at ee
        rw [ec, ee]
        refine ⟨fun hne => ?_, fun hne => no ?_⟩
        rotate_left
        · rw [hdot, if_neg (fun z => ?_)]
          have := Decidable.not_not.mp hne
          have h0 : f.1.length = 0 := by omega
          rw [List.isEmpty_iff.mpr (List.eq_nil_of_length_eq_zero h0)] at z
          exact absurd z.2 (by decide)
        refine ⟨fun hl => ?_, fun hl => bad 5 (by decide) t (GZ.rf gt.1 gt.2.1) t24 rfl (mrkL hna hl)⟩
        have hem : f.1.isEmpty = false := by
          cases e : f.1 with
          | nil => rw [e] at q5; exact absurd (show t.1 32 = t.2.1 27 (t.1 30 - 1) by rw [← q5]; simp) hne
          | cons _ _ => rfl
        intro g eg _ _ _ _ z ez
        rw [eg] at ez
        have gz : GZ f7Rd t z := by rw [ez]; exact GZ_eq (GZ.rf gt.1 gt.2.1) (fun k hk => ⟨rfl, if_neg (by omega)⟩) rfl (Fx_A (by decide))
        have zn : z.1 = t.1 := by rw [ez]; rfl
        have zr : ∀ k, k ≠ 28 → z.2.1 k = t.2.1 k := fun k hk => by rw [ez]; exact if_neg hk
        have z28 : ∀ j, z.2.1 28 j = if j = t.1 30 - 1 then 1 else t.2.1 28 j := fun j => by rw [ez]; rfl
        refine good (some (f.1, 1, f.2.2) :: r, st.2) z gz (by rw [zn]; exact t24) (by rw [zn]) ⟨?_, rT.2.mono gt.1 gz (by rw [zn]) (by rw [zn])⟩ (mrkS _ hna (by rw [hm, hdot, if_pos ⟨hs, hem⟩]) hl)
        show FrR z (some (f.1, 1, f.2.2) :: r) (z.1 30) (z.1 32)
        rw [zn]
        show 0 < t.1 30 ∧ z.2.1 26 (t.1 30 - 1) = 0 ∧ z.2.1 28 (t.1 30 - 1) = 1 ∧ ((0 : Int) ≤ 1 ∧ (1 : Int) ≤ 2) ∧ z.2.1 27 (t.1 30 - 1) + (f.1.length : Int) = t.1 32 ∧ (∀ i, z.2.1 27 (t.1 30 - 1) ≤ i → i < t.1 32 → 0 ≤ z.2.1 31 i ∧ z.2.1 31 i < z.1 8) ∧ ls z (z.2.1 31) (z.2.1 27 (t.1 30 - 1)) f.1.length = f.1 ∧ ((1 : Int) = 2 → 0 ≤ z.2.1 29 (t.1 30 - 1) ∧ z.2.1 29 (t.1 30 - 1) < z.1 8 ∧ ob z (z.2.1 29 (t.1 30 - 1)) = f.2.2) ∧ FrR z r (t.1 30 - 1) (z.2.1 27 (t.1 30 - 1))
        rw [zr 26 (by decide), zr 27 (by decide), zr 31 (by decide), z28, if_pos rfl, zn]
        refine ⟨q1, q2, rfl, by decide, q5, q6, ?_, (fun z => by cases z), FrR.mono gt.1 gz q9 (fun i hi => ⟨by rw [zr 26 (by decide)], by rw [zr 27 (by decide)], by rw [z28, if_neg (by omega)], by rw [zr 29 (by decide)]⟩) (fun i hi => by rw [zr 31 (by decide)])⟩
        refine (ls_congr (fun i hi => ?_)).trans q7
        rw [gz.ob gt.1 (q6 _ (by omega) (by omega)).1 (q6 _ (by omega) (by omega)).2]
    · -- )
      have h41 := Decidable.not_not.mp h41
      have hna : Sp.isAtm (u.2.1 13 (u.1 23)) = false := isAtm_f (by rw [h41]; decide)
      have hm : Sp.rdMark (u.2.1 13 (u.1 23)) st = Sp.rdClose st := by
        unfold Sp.rdMark
        rw [if_neg h40, if_neg h39, if_pos h41]
      have no : Sp.rdClose st = none → pw_readWord_145 Q (u.1 23) t := fun h => bad 3 (by decide) t (GZ.rf gt.1 gt.2.1) t24 rfl (mrkN hna (hm.trans h))
      refine p_isInList rT (fun h0 => ⟨fun _ => no ?_, fun z => absurd rfl z⟩) (fun f r hfr => ⟨(fun z => by cases z), fun _ => ?_⟩)
      · unfold Sp.rdClose
        cases e : st.1 with
        | nil => rfl
        | cons x y => cases x with
          | none => rfl
          | some f => exact absurd e (h0 f y)
      · have hF := rT.1
        rw [hfr] at hF
        have hF' := hF
        obtain ⟨q1, q2, q3, q4, q5, q6, q7, q8, q9⟩ := hF
        have hcl : Sp.rdClose st = (if f.2.1 = 1 then none else some (Sp.rdDel st.2 r (Sp.ofL f.1 (if f.2.1 = 2 then f.2.2 else Ob.nil)))) := by
          unfold Sp.rdClose; rw [hfr]
        intro b eb _ _ _ _ s es _
        rw [eb] at es
        rw [es, q3]
        refine ⟨fun hs => ?_, fun hs => no (by rw [hcl, if_pos (Decidable.not_not.mp hs)])⟩
        refine ⟨fun hl => ?_, fun hl => bad 5 (by decide) t (GZ.rf gt.1 gt.2.1) t24 rfl (mrkL hna hl)⟩
        exact p_close gt.1 gt.2.1 hF' rT.2 (fun v gv rv v23 v24 => good _ v gv (by rw [v24]; exact t24) v23 rv (mrkS _ hna (by rw [hm, hcl, if_neg hs]) hl))
  unfold pw_readWord
  intro x ex _ y ey _ _ _ c ec _
  rw [ey] at ec
  rw [ex, ec]
  exact ⟨fun h => main 0 ⟨fun _ => by omega, fun _ => rfl⟩, fun h => main 1 ⟨(fun z => by cases z), fun z => by omega⟩⟩
def f7Rt (k : Nat) : Bool := f7Rd k || decide (k = 14)
theorem f7Rd_Rt [DecidableEq Ob] : ∀ k, f7Rt k = false → f7Rd k = false := by
  intro k h
  unfold f7Rt at h
  rw [Bool.or_eq_false_iff] at h
  exact h.1
theorem p_reads [DecidableEq Ob] {Q : Int → iST → Prop} {u : iST} (hT : TI u) (hU : TU u)
    (hq : ∀ r v, GZ f7Rt u v → v.1 14 = 0 → (r = 0 ∧ Sp.read (tx u 0) = none) ∨ (r ≠ 0 ∧ 0 ≤ v.1 33 ∧ v.1 33 < v.1 8 ∧ Sp.read (tx u 0) = some (ob v (v.1 33))) → Q r v) : pw_reads Q u := by
  unfold pw_reads
  intro y1 e1 y2 e2 y3 e3 _ y4 e4 y5 e5 y6 e6
  have yn : ∀ k, k ≠ 23 → k ≠ 30 → k ≠ 32 → k ≠ 34 → k ≠ 24 → k ≠ 25 → y6.1 k = u.1 k := fun k a b c d e f => by
    rw [e6, e5, e4, e3, e2, e1]
    exact (if_neg f).trans ((if_neg e).trans ((if_neg d).trans ((if_neg c).trans ((if_neg b).trans (if_neg a)))))
  have y62 : y6.2 = u.2 := by rw [e6, e5, e4, e3, e2, e1]; rfl
  have g6 : GZ f7Rd u y6 := GZ_eq (GZ.rf hT hU) (fun k hk => ⟨yn k (by omega) (by omega) (by omega) (by omega) (by omega) (by omega), by rw [y62]⟩) (by rw [y62]) (fun k hk => by
    unfold f7Rd at hk
    simp only [Bool.or_eq_false_iff, decide_eq_false_iff_not] at hk
    exact ⟨yn k (by omega) (by omega) (by omega) (by omega) (by omega) (by omega), by rw [y62]⟩)
  have a23 : y6.1 23 = 0 := by rw [e6, e5, e4, e3, e2, e1]; rfl
  have a30 : y6.1 30 = 0 := by rw [e6, e5, e4, e3, e2]; rfl
  have a32 : y6.1 32 = 0 := by rw [e6, e5, e4, e3]; rfl
  have a34 : y6.1 34 = 0 := by rw [e6, e5, e4]; rfl
  have a24 : y6.1 24 = 0 := by rw [e6, e5]; rfl
  clear e1 e2 e3 e4 e5 e6
  -- the end
  have end92 : ∀ v, GZ f7Rd u v → (v.1 24 ≠ 0 → Sp.read (tx u 0) = none) → (v.1 24 = 0 → 0 ≤ v.1 33 ∧ v.1 33 < v.1 8 ∧ Sp.read (tx u 0) = some (ob v (v.1 33))) → pw_reads_92 Q v := by
    intro v gv h0 h1
    unfold pw_reads_92
    intro z ez x ex _
    have gz : GZ f7Rt v z := by rw [ez]; exact GZ_eq (GZ.rf gv.1 gv.2.1) (fun k hk => ⟨if_neg (by omega), rfl⟩) rfl (Fx_I (by decide))
    have zn : ∀ k, k ≠ 14 → z.1 k = v.1 k := fun k hk => by rw [ez]; exact if_neg hk
    have z14 : z.1 14 = 0 := by rw [ez]; rfl
    have g := (gv.mono f7Rd_Rt).tr gz
    rw [ex, zn 24 (by decide)]
    refine ⟨fun hz _ => hq 0 z g z14 (Or.inl ⟨rfl, h0 hz⟩), fun hz _ => hq 1 z g z14 (Or.inr ⟨by decide, ?_⟩)⟩
    obtain ⟨p1, p2, p3⟩ := h1 (Decidable.not_not.mp hz)
    rw [zn 33 (by decide), zn 8 (by decide)]
    exact ⟨p1, p2, by rw [p3, gz.ob gv.1 p1 p2]⟩
  have end69 : ∀ v, GZ f7Rd u v → (v.1 24 ≠ 0 → Sp.read (tx u 0) = none) → (v.1 24 = 0 → ∃ w, WhR v w ∧ Sp.read (tx u 0) = w) → pw_reads_69 Q v := by
    intro v gv h0 h1
    unfold pw_reads_69
    intro x ex _
    rw [ex]
    refine ⟨fun hz => end92 v gv h0 (fun z => absurd z hz), fun hz => ?_⟩
    have hz := Decidable.not_not.mp hz
    obtain ⟨w, hw, hr⟩ := h1 hz
    intro y ey _
    rw [ey]
    cases w with
    | none =>
      have hw : v.1 34 = 0 := hw
      refine ⟨fun z => absurd hw z, fun _ => ?_⟩
      intro c _ _
      exact p_bad gv.1 gv.2.1 hz (fun z gz z24 z23 => end92 z (gv.tr gz) (fun _ => hr) (fun q => by rw [z24] at q; cases q))
    | some o =>
      obtain ⟨w1, w2, w3, w4⟩ := hw
      exact ⟨fun _ => end92 v gv h0 (fun _ => ⟨w2, w3, by rw [hr, w4]⟩), fun z => absurd w1 z⟩
  have rd0 : Sp.rd (tx y6 (y6.1 23)) 0 ([], none) = Sp.read (tx u 0) := by
    rw [a23, tx_same (yn 14 (by decide) (by decide) (by decide) (by decide) (by decide) (by decide)) (by rw [y62])]
    rfl
  refine p_skip (fun v vn v2 vle vr vb => ?_)
  have keep : ∀ {y v : iST} {st : Sp.Rd}, GZ f7Rd u y → (∀ k, k ≠ 23 → v.1 k = y.1 k) → v.2 = y.2 → (GZ f7Rd u v) ∧ (RdR y st → RdR v st) := by
    intro y v st gy vn v2
    have g : GZ f7Rd y v := GZ_eq (GZ.rf gy.1 gy.2.1) (fun k hk => ⟨vn k (by omega), by rw [v2]⟩) (by rw [v2]) (fun k hk => ⟨vn k (fun z => by rw [z] at hk; cases hk), by rw [v2]⟩)
    refine ⟨gy.tr g, fun hR => ⟨?_, hR.2.mono gy.1 g (vn 33 (by decide)) (vn 34 (by decide))⟩⟩
    rw [vn 30 (by decide), vn 32 (by decide)]
    exact FrR.mono gy.1 g hR.1 (fun i hi => by rw [v2]; exact ⟨rfl, rfl, rfl, rfl⟩) (fun i hi => by rw [v2])
  have kv := keep (st := ([], none)) g6 vn v2
  refine pw_reads_36_i (fun x1 y => ∃ k : Nat, x1 = (k : Int) ∧ GZ f7Rd u y ∧ 0 ≤ y.1 23 ∧ ((y.1 24 ≠ 0 ∧ Sp.read (tx u 0) = none) ∨ (y.1 24 = 0 ∧ ∃ st, RdR y st ∧ Sp.read (tx u 0) = Sp.rd (tx y (y.1 23)) k st ∧ (y.1 23 < y.1 14 → y.2.1 13 (y.1 23) ≠ 59 ∧ ¬ (y.2.1 13 (y.1 23) = 32 ∨ y.2.1 13 (y.1 23) = 10))))) ?_ ⟨0, rfl, kv.1, by omega, Or.inr ⟨by rw [vn 24 (by decide)]; exact a24, ([], none), kv.2 ⟨⟨a30, a32⟩, a34⟩, by rw [vr, rd0], vb⟩⟩
  rintro x1 y ⟨k, ek, gy, y0, hor⟩
  unfold pw_reads_36b
  intro a ea _
  rw [ea]
  refine ⟨fun hz => end69 y gy (fun _ => ?_) (fun z => absurd z hz), fun hz => ?_⟩
  · rcases hor with q | q
    · exact q.2
    · exact absurd q.1 hz
  have hz := Decidable.not_not.mp hz
  obtain ⟨st, hR, hr, hb⟩ := (hor.resolve_left (fun q => q.1 hz)).2
  intro b eb _ c ec _
  rw [eb, ec]
  refine ⟨fun hge => end69 y gy (fun z => absurd hz z) (fun _ => ⟨st.2, hR.2, ?_⟩), fun hlt => ?_⟩
  · rw [hr, tx_nil hge]; rfl
  intro _
  have hlt : y.1 23 < y.1 14 := by omega
  refine p_readWord (k := k) (st := st) gy.1 gy.2.1 hR hz hlt (hb hlt) (by rw [ek]) (fun z hz2 => ?_)
  obtain ⟨gz, zle, zor⟩ := hz2
  rw [← hr] at zor
  refine p_skip (fun v vn v2 vle vr vb => ?_)
  have kz := fun st => keep (st := st) (gy.tr gz) vn v2
  refine ⟨k + 1, by rw [ek]; rfl, (kz st).1, by omega, ?_⟩
  rcases zor with ⟨q1, q2⟩ | ⟨q1, st', q2, q3⟩
  · exact Or.inl ⟨by rw [vn 24 (by decide)]; exact q1, q2⟩
  · exact Or.inr ⟨by rw [vn 24 (by decide)]; exact q1, st', (kz st').2 q2, by rw [vr]; exact q3, vb⟩
