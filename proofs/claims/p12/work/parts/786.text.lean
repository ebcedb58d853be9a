-- deps: 785
/-! the class: a text is read -/
theorem tx_while [DecidableEq Ob] (p : Int → Bool) (u : iST) {b e : Int} (he : e ≤ b) (hn : e < b → p (u.2.1 44 e) = false) : ∀ (n : Nat) (a : Int), a + (n : Int) = e → (∀ i, a ≤ i → i < e → p (u.2.1 44 i) = true) → (txN u a (b - a).toNat).takeWhile p = txN u a n ∧ (txN u a (b - a).toNat).dropWhile p = txN u e (b - e).toNat
  | 0, a, ha, _ => by
    have ea : a = e := by omega
    rw [ea]
    by_cases q : e < b
    · obtain ⟨m, hm⟩ : ∃ m, (b - e).toNat = m + 1 := ⟨(b - e).toNat - 1, by omega⟩
      rw [hm, txN_cons, List.takeWhile_cons, List.dropWhile_cons, hn q]
      exact ⟨rfl, rfl⟩
    · rw [show (b - e).toNat = 0 by omega]
      exact ⟨rfl, rfl⟩
  | n + 1, a, ha, h => by
    have ih := tx_while p u he hn n (a + 1) (by omega) (fun i h1 h2 => h i (by omega) h2)
    have hm : (b - a).toNat = (b - (a + 1)).toNat + 1 := by omega
    rw [hm, txN_cons, List.takeWhile_cons, List.dropWhile_cons, h a (Int.le_refl _) (by omega)]
    refine ⟨?_, ih.2⟩
    rw [txN_cons]
    exact congrArg (List.cons _) ih.1
theorem tx_same44 [DecidableEq Ob] {u v : iST} (h : v.2.1 44 = u.2.1 44) (a : Int) (n : Nat) : txN v a n = txN u a n := by
  unfold txN
  rw [h]
theorem rdBeg_ok [DecidableEq Ob] {st : Sp.Rd} (hn : st.1 ≠ [] → st.2 = none) (hN : NsO st.1) (hb : Sp.rdBeg st = true) : st.2 = none ∧ DlOk st.1 := by
  obtain ⟨l, w⟩ := st
  cases l with
  | nil =>
    refine ⟨?_, trivial⟩
    cases w with
    | none => rfl
    | some o => cases hb
  | cons f r =>
    refine ⟨hn (by intro z; cases z), ?_⟩
    cases f with
    | none => exact hN.1
    | some f =>
      have hb' : decide (f.2.1 < 2) = true := hb
      exact (of_decide_eq_true hb' : f.2.1 < 2)
theorem RdC.i19 [DecidableEq Ob] {u : iST} {st : Sp.Rd} {x : Int} (hT : CT u) (h : RdC u st) : CG f8In f8Ir u (iI u 19 x) ∧ RdC (iI u 19 x) st := by
  have g : CG f8In f8Ir u (iI u 19 x) := CG_I hT (by decide) (by decide)
  obtain ⟨hF, hW, h1, h2⟩ := h
  refine ⟨g, ?_, hW.mono hT g rfl rfl, h1, h2⟩
  exact hF.mono hT g (fun i _ => ⟨rfl, rfl, rfl⟩) (fun i _ => rfl)
/-- how many characters of a text are not 0 -/
def nzT [DecidableEq Ob] (t : List Int) : Int := ((t.filter (fun c => decide (c ≠ 0))).length : Int)
theorem nzT_cons [DecidableEq Ob] (c : Int) (t : List Int) : nzT t ≤ nzT (c :: t) ∧ (c ≠ 0 → nzT (c :: t) = nzT t + 1) := by
  unfold nzT
  rw [List.filter_cons]
  by_cases h : c ≠ 0
  · rw [if_pos (decide_eq_true h), List.length_cons]
    exact ⟨by omega, fun _ => by omega⟩
  · rw [if_neg (by rw [decide_eq_false h]; decide)]
    exact ⟨Int.le_refl _, fun z => absurd z h⟩
theorem nzT_pos [DecidableEq Ob] (t : List Int) : 0 ≤ nzT t := Int.natCast_nonneg _
theorem nzT_tx [DecidableEq Ob] (u : iST) (b : Int) : ∀ (n : Nat) (a : Int), a + (n : Int) ≤ b → nzT (txN u (a + (n : Int)) (b - (a + (n : Int))).toNat) ≤ nzT (txN u a (b - a).toNat)
  | 0, a, _ => by rw [show a + ((0 : Nat) : Int) = a by omega]; exact Int.le_refl _
  | n + 1, a, h => by
    have ih := nzT_tx u b n (a + 1) (by omega)
    have e : txN u a (b - a).toNat = u.2.1 44 a :: txN u (a + 1) (b - (a + 1)).toNat := by
      rw [show (b - a).toNat = (b - (a + 1)).toNat + 1 by omega, txN_cons]
    have q := (nzT_cons (u.2.1 44 a) (txN u (a + 1) (b - (a + 1)).toNat)).1
    rw [e, show a + ((n + 1 : Nat) : Int) = a + 1 + (n : Int) by omega]
    omega
theorem nzT_le [DecidableEq Ob] {u : iST} {a e b : Int} (h : a ≤ e) (h2 : e ≤ b) : nzT (txN u e (b - e).toNat) ≤ nzT (txN u a (b - a).toNat) := by
  have := nzT_tx u b (e - a).toNat a (by omega)
  rw [show a + ((e - a).toNat : Int) = e by omega] at this
  exact this
/-- how far a text is read -/
def RdN [DecidableEq Ob] (M n0 : Int) (R : Option Ob) (b : Int) (v : iST) (e : Int) : Prop :=
  v.1 29 ≤ n0 + 2000 ∧ ((v.1 21 ≠ 0 ∧ R = none) ∨ (v.1 21 = 0 ∧ ∃ (k : Nat) (st : Sp.Rd), v.1 19 = (k : Int) ∧ k ≤ 1000 ∧ RdC v st ∧ v.1 18 ≤ (k : Int) ∧ v.1 29 + v.1 18 + 2 * nq st.1 ≤ n0 + 2 * (k : Int) ∧ R = Sp.rd (txN v e (b - e).toNat) k st ∧ (k : Int) + nzT (txN v e (b - e).toNat) ≤ M))
theorem FrC.pos [DecidableEq Ob] {u : iST} {l : List Sp.Fr} {d e : Int} (h : FrC u l d e) : 0 ≤ e := h.len.2
theorem pc_refuse [DecidableEq Ob] {w a : Int} {Q : iST → Prop} {u : iST} (hT : CT u) (hq : ∀ v, CG f8In f8Ir u v → v.1 21 = w → v.1 29 = u.1 29 → v.1 20 = u.1 20 → Q v) : pv_5_refuse w a Q u := by
  unfold pv_5_refuse
  intro y1 e1 y2 e2
  have g1 : CG f8In f8Ir u y1 := by rw [e1]; exact CG_I hT (by decide) (by decide)
  have g2 : CG f8In f8Ir y1 y2 := by rw [e2]; exact CG_I g1.1 (by decide) (by decide)
  refine hq y2 (g1.tr g2) ?_ ?_ ?_
  · rw [e2, iIc_ne _ _ (by decide), e1, iIc_at]
  · rw [e2, iIc_ne _ _ (by decide), e1, iIc_ne _ _ (by decide)]
  · rw [e2, iIc_ne _ _ (by decide), e1, iIc_ne _ _ (by decide)]
theorem mark_f [DecidableEq Ob] (c : Int) (h : c = 40 ∨ c = 39 ∨ c = 41 ∨ c = 46) : Sp.isAtm c = false := by
  exact isAtm_f (by omega)
theorem rdMark_no [DecidableEq Ob] {c : Int} {st : Sp.Rd} (h1 : c ≠ 40) (h2 : c ≠ 39) (h3 : c ≠ 41) (h4 : c ≠ 46) : Sp.rdMark c st = none := by
  unfold Sp.rdMark
  rw [if_neg h1, if_neg h2, if_neg h3, if_neg h4]
theorem isSome_of [DecidableEq Ob] {α : Type} {o : Option α} (h : o.isSome = true) : ∃ x, o = some x := by
  cases o with
  | none => cases h
  | some x => exact ⟨x, rfl⟩
theorem isSome_no [DecidableEq Ob] {α : Type} {o : Option α} (h : o.isSome = false) : o = none := by
  cases o with
  | none => rfl
  | some x => cases h
theorem pc_takeWord [DecidableEq Ob] {a b n0 M : Int} {Q : Int → iST → Prop} {u : iST} {k : Nat} {st : Sp.Rd} {R : Option Ob} (hT : CT u) (hch : ChC u b) (a0 : 0 ≤ a) (ab : a < b) (b3 : b ≤ 3000) (h21 : u.1 21 = 0) (h19 : u.1 19 = (k : Int)) (hk : k ≤ 1000) (hR : RdC u st) (h18 : u.1 18 ≤ (k : Int)) (hn : u.1 29 + u.1 18 + 2 * nq st.1 ≤ n0 + 2 * (k : Int)) (hn0 : n0 ≤ 157900) (eR : R = Sp.rd (txN u a (b - a).toNat) k st) (hM : (k : Int) + nzT (txN u a (b - a).toNat) ≤ M) (n1 : u.2.1 44 a ≠ 59) (n2 : ¬ (u.2.1 44 a = 32 ∨ u.2.1 44 a = 10)) (hq : ∀ e v, a ≤ e → e ≤ b → CG f8In f8Ir u v → RdN M n0 R b v (if a + 1 < e then e else a + 1) → Q e v) : pv_5_takeWord a b Q u := by
  have e0 := hR.1.pos
  have nqs := nq_pos st.1
  have hcons : txN u a (b - a).toNat = u.2.1 44 a :: txN u (a + 1) (b - (a + 1)).toNat := by
    rw [show (b - a).toNat = (b - (a + 1)).toNat + 1 by omega, txN_cons]
  have h29 : u.1 29 ≤ n0 + 2000 := by omega
  have bad : ∀ (w e : Int), a ≤ e → e ≤ b → w ≠ 0 → R = none → pv_5_refuse w a (fun u => Q e u) u := fun w e q1 q2 hw hr => pc_refuse hT (fun v g v21 v29 _ => hq e v q1 q2 g ⟨by rw [v29]; exact h29, Or.inl ⟨by rw [v21]; exact hw, hr⟩⟩)
  unfold pv_5_takeWord
  intro _ _ c ec _
  rw [← ec] at hcons n1 n2
  refine pc_atomEnd hch a0 (by omega) (fun e ae eb hat hne => ?_)
  refine ⟨fun le => ?_, fun gt => ?_⟩
  · -- a mark
    have ea : e = a := by omega
    have hna : Sp.isAtm c = false := by
      have := hne (by omega)
      rw [ea, ← ec] at this
      exact this
    rw [hcons, rd_mrk hna n1 n2] at eR
    rw [ea]
    have eif : (if a + 1 < a then a else a + 1) = a + 1 := if_neg (by omega)
    have w164 : ∀ x8 st', Sp.rdMark c st = some st' → pv_5_takeWord_164 Q a c a 0 x8 u := fun x8 st' hm => by
      rw [hm] at eR
      have c0 : c ≠ 0 := fun z => by
        rw [z, rdMark_no (by decide) (by decide) (by decide) (by decide)] at hm
        cases hm
      have hM1 : ((k + 1 : Nat) : Int) + nzT (txN u (a + 1) (b - (a + 1)).toNat) ≤ M := by
        have q := (nzT_cons c (txN u (a + 1) (b - (a + 1)).toNat)).2 c0
        rw [hcons] at hM
        omega
      have eR : R = if k < 1000 then Sp.rd (txN u (a + 1) (b - (a + 1)).toNat) (k + 1) st' else none := eR
      unfold pv_5_takeWord_164
      intro v4 e4 _
      refine ⟨fun lt => ?_, fun ge => ?_⟩
      · rw [if_pos (by omega)] at eR
        intro v5 e5 _ _ y ey
        refine ⟨fun _ => ?_, fun z => absurd rfl z⟩
        obtain ⟨gy, hRy⟩ := hR.i19 (x := v5 + 1) hT
        rw [← ey] at gy hRy
        have yn : ∀ j, j ≠ 19 → y.1 j = u.1 j := fun j hj => by rw [ey, iIc_ne _ _ hj]
        have y19 : y.1 19 = u.1 19 + 1 := by rw [ey, iIc_at, e5]
        refine pc_takeMark gy.1 hRy hm (by rw [yn 18 (by decide)]; omega) (by rw [yn 29 (by decide), yn 18 (by decide)]; omega) (fun v hv => ?_)
        obtain ⟨g, k2, k3, k4, k5, k6⟩ := hv
        rw [yn 18 (by decide)] at k5
        rw [yn 29 (by decide), yn 18 (by decide)] at k6
        have nqv := nq_pos st'.1
        have v0 := k2.1.pos
        have gv := gy.tr g
        refine hq a v (Int.le_refl _) (by omega) gv ⟨by omega, Or.inr ⟨by rw [k4, yn 21 (by decide)]; exact h21, k + 1, st', ?_, by omega, k2, ?_, ?_, ?_⟩⟩
        · rw [k3, y19, h19]; rfl
        · show v.1 18 ≤ (k : Int) + 1; omega
        · show v.1 29 + v.1 18 + 2 * nq st'.1 ≤ n0 + 2 * ((k : Int) + 1); omega
        · rw [eif, tx_same44 (gv.2.2.2 44 (by decide))]
          exact ⟨eR, hM1⟩
      · rw [if_neg (by omega)] at eR
        exact bad 5 a (Int.le_refl _) (by omega) (by decide) eR
    have w123 : ∀ x7 x8, (c = 40 ∨ c = 39 ∨ c = 41 ∨ c = 46) → (x7 = 0 → c = 41 ∨ c = 46) → (x7 ≠ 0 → c = 40 ∨ c = 39) → pv_5_takeWord_123 Q a c a 0 x7 x8 u := fun x7 x8 hc hx0 hx1 => by
      unfold pv_5_takeWord_123
      refine pc_canStand hR (fun r hr => ?_)
      unfold csW at hr
      refine ⟨fun rt => ?_, fun rf => ?_⟩
      · have hr := hr.t rt
        refine ⟨fun x0 => ?_, fun x0 => ?_⟩
        · rcases hx0 x0 with q | q
          · rw [if_pos q] at hr
            obtain ⟨st', hs⟩ := isSome_of hr
            refine w164 x8 st' ?_
            unfold Sp.rdMark
            rw [if_neg (by omega), if_neg (by omega), if_pos q]
            exact hs
          · rw [if_neg (by omega), if_pos q] at hr
            obtain ⟨st', hs⟩ := isSome_of hr
            refine w164 x8 st' ?_
            unfold Sp.rdMark
            rw [if_neg (by omega), if_neg (by omega), if_neg (by omega), if_pos q]
            exact hs
        · have q := hx1 x0
          rw [if_neg (by omega), if_neg (by omega)] at hr
          intro v11 e11 _
          have dl := hR.1.len.1
          refine ⟨fun lt => ?_, fun ge => ?_⟩
          · have ho : ∀ q, Sp.rdOpen q st = some ((if q then none else some ([], 0, Ob.nil)) :: st.1, st.2) := fun q => by
              unfold Sp.rdOpen
              rw [hr, decide_eq_true (show st.1.length < 40 by omega)]
              rfl
            by_cases c40 : c = 40
            · refine w164 x8 (some ([], 0, Ob.nil) :: st.1, st.2) ?_
              unfold Sp.rdMark
              rw [if_pos c40]
              exact ho false
            · refine w164 x8 (none :: st.1, st.2) ?_
              unfold Sp.rdMark
              rw [if_neg c40, if_pos (by omega)]
              exact ho true
          · refine bad 4 a (Int.le_refl _) (by omega) (by decide) ?_
            have ho : ∀ q, Sp.rdOpen q st = none := fun q => by
              unfold Sp.rdOpen
              rw [decide_eq_false (show ¬ st.1.length < 40 by omega), Bool.and_false]
              rfl
            have hm : Sp.rdMark c st = none := by
              unfold Sp.rdMark
              by_cases c40 : c = 40
              · rw [if_pos c40]; exact ho false
              · rw [if_neg c40, if_pos (by omega)]; exact ho true
            rw [hm] at eR
            exact eR
      · have hr := hr.f (Decidable.not_not.mp rf)
        refine bad 3 a (Int.le_refl _) (by omega) (by decide) ?_
        have hm : Sp.rdMark c st = none := by
          unfold Sp.rdMark
          by_cases c41 : c = 41
          · rw [if_pos c41] at hr
            rw [if_neg (by omega), if_neg (by omega), if_pos c41]
            exact isSome_no hr
          rw [if_neg c41] at hr
          by_cases c46 : c = 46
          · rw [if_pos c46] at hr
            rw [if_neg (by omega), if_neg (by omega), if_neg c41, if_pos c46]
            exact isSome_no hr
          rw [if_neg c46] at hr
          have ho : ∀ q, Sp.rdOpen q st = none := fun q => by
            unfold Sp.rdOpen
            rw [hr]
            rfl
          by_cases c40 : c = 40
          · rw [if_pos c40]; exact ho false
          · rw [if_neg c40, if_pos (by omega)]; exact ho true
        rw [hm] at eR
        exact eR
    have w102 : ∀ x7 x8, (c = 40 ∨ c = 39 ∨ c = 41 ∨ c = 46) → (x7 = 0 → c = 41 ∨ c = 46) → (x7 ≠ 0 → c = 40 ∨ c = 39) → pv_5_takeWord_102 Q a c a 0 x7 x8 u := fun x7 x8 hc hx0 hx1 => by
      unfold pv_5_takeWord_102
      exact ⟨fun _ => w123 x7 x8 hc hx0 hx1, fun z => absurd rfl z⟩
    have w41 : (c = 40 ∨ c = 39) → pv_5_takeWord_41 Q a c a 0 u := fun hc => by
      unfold pv_5_takeWord_41 pv_5_takeWord_46
      refine ⟨fun _ => ?_, fun z => absurd rfl z⟩
      unfold pv_5_takeWord_67
      refine ⟨fun z => absurd rfl z, fun _ => ⟨fun _ => w102 1 (-1) (by omega) (fun z => by cases z) (fun _ => hc), fun z => absurd (show (1 : Int) ≠ 0 by decide) z⟩⟩
    unfold pv_5_takeWord_25
    refine ⟨fun c40 => w41 (Or.inl c40), fun c40 => ⟨fun c39 => ?_, fun c39 => w41 (Or.inr (Decidable.not_not.mp c39))⟩⟩
    unfold pv_5_takeWord_46
    refine ⟨fun _ => ?_, fun z => absurd rfl z⟩
    unfold pv_5_takeWord_67
    refine ⟨fun z => absurd rfl z, fun _ => ⟨fun z => absurd rfl z, fun _ => ⟨fun c41 => w102 0 (-1) (by omega) (fun _ => Or.inl c41) (fun z => absurd rfl z), fun c41 => ⟨fun c46 => w102 0 (-1) (by omega) (fun _ => Or.inr c46) (fun z => absurd rfl z), fun c46 => ?_⟩⟩⟩⟩
    refine bad 1 a (Int.le_refl _) (by omega) (by decide) ?_
    rw [rdMark_no c40 c39 c41 c46] at eR
    exact eR
  · -- an atom
    have hA : Sp.isAtm c = true := by rw [ec]; exact hat a (Int.le_refl _) (by omega)
    have hc : ¬ (c = 40 ∨ c = 39 ∨ c = 41 ∨ c = 46) := fun z => by
      rw [mark_f c z] at hA
      cases hA
    have hw := tx_while Sp.isAtm u eb hne (e - a).toNat a (by omega) hat
    rw [hcons] at hw
    have hdr : (txN u (a + 1) (b - (a + 1)).toNat).dropWhile Sp.isAtm = txN u e (b - e).toNat := by
      have := hw.2
      rw [List.dropWhile_cons, hA] at this
      exact this
    rw [hcons, rd_atm hA n1 n2, hw.1, hdr] at eR
    have eif : (if a + 1 < e then e else a + 1) = e := by
      by_cases z : a + 1 < e
      · rw [if_pos z]
      · rw [if_neg z]; omega
    have c0 : c ≠ 0 := fun z => by
      rw [z] at hA
      have q0 : Sp.isAtm 0 = false := rfl
      rw [q0] at hA
      cases hA
    have hM1 : ((k + 1 : Nat) : Int) + nzT (txN u e (b - e).toNat) ≤ M := by
      have q := (nzT_cons c (txN u (a + 1) (b - (a + 1)).toNat)).2 c0
      have q2 := nzT_le (u := u) (show a + 1 ≤ e by omega) eb
      rw [hcons] at hM
      omega
    unfold pv_5_takeWord_25
    refine ⟨fun z => absurd (Or.inl z) hc, fun _ => ⟨fun _ => ?_, fun z => absurd (Or.inr (Or.inl (Decidable.not_not.mp z))) hc⟩⟩
    unfold pv_5_takeWord_46
    refine ⟨(fun z => by cases z), fun _ => ?_⟩
    refine pc_atomCell (m := u.1 29) (fun i i0 i1 => hch i i0 (by omega)) a0 (by omega) hat (fun r hr => ?_)
    unfold pv_5_takeWord_67
    refine ⟨fun _ => ?_, fun z => absurd (show (1 : Int) ≠ 0 by decide) z⟩
    unfold pv_5_takeWord_102
    refine ⟨(fun z => by cases z), fun _ => ?_⟩
    rcases hr with ⟨r1, r2⟩ | ⟨r1, r2, r3⟩
    · refine ⟨fun z => by omega, fun _ => bad 2 e ae eb (by decide) ?_⟩
      rw [r2] at eR
      exact eR
    rw [r3] at eR
    have eR : R = if (Sp.rdBeg st && decide (k < 1000)) = true then Sp.rd (txN u e (b - e).toNat) (k + 1) (Sp.rdDel st.2 st.1 (atC r)) else none := eR
    refine ⟨fun _ => ?_, fun z => absurd r1 z⟩
    unfold pv_5_takeWord_123
    refine pc_canStand hR (fun s hs => ?_)
    unfold csW at hs
    rw [if_neg (fun z => hc (Or.inr (Or.inr (Or.inl z)))), if_neg (fun z => hc (Or.inr (Or.inr (Or.inr z))))] at hs
    refine ⟨fun st1 => ?_, fun sf => ?_⟩
    rotate_left
    · have hs := hs.f (Decidable.not_not.mp sf)
      refine bad 3 e ae eb (by decide) ?_
      rw [hs] at eR
      exact eR
    have hs := hs.t st1
    refine ⟨fun _ => ?_, fun z => absurd rfl z⟩
    unfold pv_5_takeWord_164
    intro v4 e4 _
    refine ⟨fun lt => ?_, fun ge => ?_⟩
    rotate_left
    · refine bad 5 e ae eb (by decide) ?_
      rw [decide_eq_false (show ¬ k < 1000 by omega), Bool.and_false] at eR
      exact eR
    rw [hs, decide_eq_true (show k < 1000 by omega)] at eR
    have eR : R = Sp.rd (txN u e (b - e).toNat) (k + 1) (Sp.rdDel st.2 st.1 (atC r)) := eR
    intro v5 e5 _ _ y ey
    refine ⟨(fun z => by cases z), fun _ => ?_⟩
    obtain ⟨gy, hRy⟩ := hR.i19 (x := v5 + 1) hT
    rw [← ey] at gy hRy
    have yn : ∀ j, j ≠ 19 → y.1 j = u.1 j := fun j hj => by rw [ey, iIc_ne _ _ hj]
    have y19 : y.1 19 = u.1 19 + 1 := by rw [ey, iIc_at, e5]
    have y29 : y.1 29 = u.1 29 := yn 29 (by decide)
    refine pc_made gy.1 (by omega) (by rw [y29]; exact r2) (fun t z gz t0 t1 et h2 => ?_)
    have gI : CG f8In f8Ir y z := gz.mono f8M_I f8R_I
    have zn : ∀ j, f8M j = false → z.1 j = y.1 j := fun j hj => gz.2.2.1 j hj
    have zr : ∀ j, f8R j = false → z.2.1 j = y.2.1 j := fun j hj => gz.2.2.2 j hj
    obtain ⟨w0, dok⟩ := rdBeg_ok hR.2.2.1 hR.2.2.2 hs
    have eo : oc z t = atC r := by
      unfold atC
      by_cases q : r < 4611686018427387904
      · rw [if_pos q, oc_nat (by rw [et]; exact r1) (by rw [et]; exact q), et]
      · rw [if_neg q, oc_sym (by rw [et]; omega), et]
    have hFz : FrC z st.1 (z.1 17) (z.1 18) := by
      rw [zn 17 (by decide), zn 18 (by decide)]
      exact hRy.1.mono gy.1 gI (fun i _ => ⟨by rw [zr 23 (by decide)], by rw [zr 24 (by decide)], by rw [zr 25 (by decide)]⟩) (fun i _ => by rw [zr 26 (by decide)])
    have hWz : z.2.1 23 0 = 0 := by
      rw [zr 23 (by decide)]
      have := hRy.2.1
      rw [w0] at this
      exact this
    have z18 : z.1 18 = u.1 18 := by rw [zn 18 (by decide)]; exact yn 18 (by decide)
    refine pc_deliver gz.1 ⟨t0, t1⟩ hFz hWz dok hR.2.2.2 (by omega) (by omega) (fun v hv => ?_)
    obtain ⟨g, k2, k3, k4, k5, k6⟩ := hv
    rw [eo] at k2 k6
    have gv := (gy.tr gI).tr g
    rw [w0] at eR
    have nqv := nq_pos (Sp.rdDel none st.1 (atC r)).1
    have v0 := k2.1.pos
    refine hq e v ae eb gv ⟨by omega, Or.inr ⟨?_, k + 1, Sp.rdDel none st.1 (atC r), ?_, by omega, k2, ?_, ?_, ?_⟩⟩
    · rw [k4, zn 21 (by decide), yn 21 (by decide)]; exact h21
    · rw [k3, zn 19 (by decide), y19, h19]; rfl
    · show v.1 18 ≤ (k : Int) + 1; omega
    · show v.1 29 + v.1 18 + 2 * nq (Sp.rdDel none st.1 (atC r)).1 ≤ n0 + 2 * ((k : Int) + 1); omega
    · rw [eif, tx_same44 (gv.2.2.2 44 (by decide))]
      exact ⟨eR, hM1⟩
/-- a text is read -/
theorem pc_readT [DecidableEq Ob] {b : Int} {Q : Int → iST → Prop} {u : iST} (hT : CT u) (hch : ChC u b) (b0 : 0 ≤ b) (b3 : b ≤ 3000) (hn0 : u.1 29 ≤ 157900)
    (hq : ∀ r v, CG f8In f8Ir u v → v.1 29 ≤ u.1 29 + 2000 → ((v.1 21 ≠ 0 ∧ Sp.read (txN u 0 b.toNat) = none) ∨ (v.1 21 = 0 ∧ (VN v r ∧ v.1 29 ≤ u.1 29 + 2 * nzT (txN u 0 b.toNat)) ∧ Sp.read (txN u 0 b.toNat) = some (oc v r))) → Q r v) : pv_5_read b Q u := by
  unfold pv_5_read
  intro y1 e1 y2 e2 y3 e3 y4 e4 y5 e5 y6 e6 _ _ y7 e7
  have g1 : CG f8In f8Ir u y1 := by rw [e1]; exact CG_I hT (by decide) (by decide)
  have g2 : CG f8In f8Ir y1 y2 := by rw [e2]; exact CG_I g1.1 (by decide) (by decide)
  have g3 : CG f8In f8Ir y2 y3 := by rw [e3]; exact CG_I g2.1 (by decide) (by decide)
  have g4 : CG f8In f8Ir y3 y4 := by rw [e4]; exact CG_I g3.1 (by decide) (by decide)
  have g5 : CG f8In f8Ir y4 y5 := by rw [e5]; exact CG_I g4.1 (by decide) (by decide)
  have g6 : CG f8In f8Ir y5 y6 := by rw [e6]; exact CG_I g5.1 (by decide) (by decide)
  have g7 : CG f8In f8Ir y6 y7 := by rw [e7]; exact CG_A g6.1 (by omega) (by decide)
  have g := (((((g1.tr g2).tr g3).tr g4).tr g5).tr g6).tr g7
  have a17 : y7.1 17 = 0 := by rw [e7, e6, e5, e4, e3, e2, e1]; rfl
  have a18 : y7.1 18 = 0 := by rw [e7, e6, e5, e4, e3, e2]; rfl
  have a19 : y7.1 19 = 0 := by rw [e7, e6, e5, e4, e3]; rfl
  have a21 : y7.1 21 = 0 := by rw [e7, e6, e5]; rfl
  have a29 : y7.1 29 = u.1 29 := by rw [e7, e6, e5, e4, e3, e2, e1]; rfl
  have a23 : y7.2.1 23 0 = 0 := by rw [e7]; exact iAc_at _ _ _ _
  clear e1 e2 e3 e4 e5 e6 e7 g1 g2 g3 g4 g5 g6 g7
  -- the end
  have e143 : ∀ v, CG f8In f8Ir u v → v.1 29 ≤ u.1 29 + 2000 → ((v.1 21 ≠ 0 ∧ Sp.read (txN u 0 b.toNat) = none) ∨ (v.1 21 = 0 ∧ (VN v (v.1 20) ∧ v.1 29 ≤ u.1 29 + 2 * nzT (txN u 0 b.toNat)) ∧ Sp.read (txN u 0 b.toNat) = some (oc v (v.1 20)))) → pv_5_read_143 Q v := fun v gv h29 h => by
    unfold pv_5_read_143
    intro r er _
    rw [er]
    exact hq _ v gv h29 h
  have e119 : ∀ v e, CG f8In f8Ir u v → b ≤ e → RdN (nzT (txN u 0 b.toNat)) (u.1 29) (Sp.read (txN u 0 b.toNat)) b v e → pv_5_read_119 Q b v := fun v e gv be hv => by
    obtain ⟨h29, h⟩ := hv
    unfold pv_5_read_119
    intro v1 ev1 _
    rw [ev1]
    rcases h with h | ⟨h1, k, st, _, _, hR, _, hk2, hr, hkM⟩
    · exact ⟨fun _ => e143 v gv h29 (Or.inl h), fun z => absurd h.1 z⟩
    refine ⟨fun z => absurd h1 z, fun _ => ?_⟩
    intro _ _ v3 ev3 _
    rw [ev3]
    have hr2 : Sp.read (txN u 0 b.toNat) = st.2 := by
      rw [hr, show (b - e).toNat = 0 by omega]
      rfl
    have hW := hR.2.1
    cases ew : st.2 with
    | none =>
      rw [ew] at hW hr2
      have hW : v.2.1 23 0 = 0 := hW
      refine ⟨fun z => by omega, fun _ => pc_refuse gv.1 (fun z gz z21 z29 z20 => e143 z (gv.tr gz) (by rw [z29]; exact h29) (Or.inl ⟨by rw [z21]; decide, hr2⟩))⟩
    | some o =>
      rw [ew] at hW hr2
      obtain ⟨w1, w2, w3⟩ := hW
      have nn := nzT_pos (txN v e (b - e).toNat)
      have nqv := nq_pos st.1
      have p18 := hR.1.pos
      exact ⟨fun _ => e143 v gv h29 (Or.inr ⟨h1, ⟨w2, by omega⟩, by rw [hr2, w3]⟩), fun z => absurd w1 z⟩
  refine pv_5_read_39_i (fun x2 x3 y => x2 = b ∧ CG f8In f8Ir u y ∧ 0 ≤ x3 ∧ RdN (nzT (txN u 0 b.toNat)) (u.1 29) (Sp.read (txN u 0 b.toNat)) b y x3) ?_ ⟨rfl, g, by decide, by omega, Or.inr ⟨a21, 0, ([], none), a19, by decide, ⟨⟨a17, a18⟩, a23, fun z => absurd rfl z, trivial⟩, by omega, ?_, ?_, ?_⟩⟩
  rotate_left
  · rw [a29, a18]
    show u.1 29 + 0 + 2 * 0 ≤ u.1 29 + 2 * 0
    omega
  · rw [tx_same44 (g.2.2.2 44 (by decide)), show (b - 0).toNat = b.toNat by omega]
    rfl
  · rw [tx_same44 (g.2.2.2 44 (by decide)), show (b - 0).toNat = b.toNat by omega]
    show ((0 : Nat) : Int) + _ ≤ _
    omega
  rintro x2 x3 y ⟨b2, gy, x0, hy⟩
  rw [b2]
  unfold pv_5_read_39b
  refine ⟨fun q => e119 y x3 gy q hy, fun q => ⟨fun q3 => by omega, fun q3 => ?_⟩⟩
  intro v5 ev5 _
  have early : y.1 21 ≠ 0 → pv_5_read_119 Q b y := fun h => by
    obtain ⟨h29, hor⟩ := hy
    refine e119 y b gy (Int.le_refl _) ⟨h29, Or.inl ?_⟩
    rcases hor with h' | h'
    · exact h'
    · exact absurd h'.1 h
  refine ⟨fun z => early (by rw [← ev5]; exact z), fun z => ?_⟩
  have y21 : y.1 21 = 0 := by rw [← ev5]; exact Decidable.not_not.mp z
  obtain ⟨h29, hor⟩ := hy
  rcases hor with h' | h'
  · exact absurd y21 h'.1
  obtain ⟨_, k, st, k19, k1000, hR, k18, k29, hr, hkM⟩ := h'
  have lt : x3 < b := by omega
  have hcons : txN y x3 (b - x3).toNat = y.2.1 44 x3 :: txN y (x3 + 1) (b - (x3 + 1)).toNat := by
    rw [show (b - x3).toNat = (b - (x3 + 1)).toNat + 1 by omega, txN_cons]
  have hchy : ChC y b := fun i i0 i1 => by
    rw [gy.2.2.2 44 (by decide)]
    exact hch i i0 i1
  have next : ∀ (x4 : Int) (z : iST), CG f8In f8Ir u z → RdN (nzT (txN u 0 b.toNat)) (u.1 29) (Sp.read (txN u 0 b.toNat)) b z (if x3 + 1 < x4 then x4 else x3 + 1) → pv_5_read_107 (fun x2 x3 y => x2 = b ∧ CG f8In f8Ir u y ∧ 0 ≤ x3 ∧ RdN (nzT (txN u 0 b.toNat)) (u.1 29) (Sp.read (txN u 0 b.toNat)) b y x3) Q b x3 x4 z := fun x4 z gz hz => by
    unfold pv_5_read_107
    intro _ v10 e10 _
    rw [e10]
    refine ⟨rfl, gz, ?_, hz⟩
    split <;> omega
  have skip : ∀ e, x3 + 1 ≤ e → e ≤ b → Sp.rd (txN y x3 (b - x3).toNat) k st = Sp.rd (txN y e (b - e).toNat) k st → RdN (nzT (txN u 0 b.toNat)) (u.1 29) (Sp.read (txN u 0 b.toNat)) b y (if x3 + 1 < e then e else x3 + 1) := fun e q1 q2 q3 => by
    have eif : (if x3 + 1 < e then e else x3 + 1) = e := by
      by_cases z : x3 + 1 < e
      · rw [if_pos z]
      · rw [if_neg z]; omega
    rw [eif]
    exact ⟨h29, Or.inr ⟨y21, k, st, k19, k1000, hR, k18, k29, by rw [hr, q3], by have := nzT_le (u := y) (show x3 ≤ e by omega) q2; omega⟩⟩
  intro _ _ _ v7 e7 _
  refine ⟨fun n59 => ?_, fun is59 => ?_⟩
  · intro _ _ v8 e8 _
    refine ⟨fun c32 => ?_, fun c32 => ?_⟩
    · refine next (x3 + 1) y gy (skip (x3 + 1) (Int.le_refl _) (by omega) ?_)
      rw [hcons, rd_sp (Or.inl (by rw [← e8]; exact c32))]
    intro _ _ v11 e11 _
    refine ⟨fun c10 => ?_, fun c10 => ?_⟩
    · refine next (x3 + 1) y gy (skip (x3 + 1) (Int.le_refl _) (by omega) ?_)
      rw [hcons, rd_sp (Or.inr (by rw [← e11]; exact c10))]
    refine pc_takeWord (n0 := u.1 29) (k := k) (st := st) gy.1 hchy x0 lt b3 y21 k19 k1000 hR k18 k29 hn0 hr hkM (by rw [← e7]; exact n59) (fun z => z.elim (fun q => c32 (by rw [e8]; exact q)) (fun q => c10 (by rw [e11]; exact q))) (fun e v _ _ gv hv => next e v (gy.tr gv) hv)
  · have is59 := Decidable.not_not.mp is59
    refine pc_lineEnd (by omega) (fun e ae eb hle hend => ?_)
    have ne : e ≠ x3 := fun z => by
      have := hend (by omega)
      rw [z, ← e7] at this
      omega
    refine next e y gy (skip e (by omega) eb ?_)
    have hw := tx_while (fun c => decide (c ≠ 10)) y eb (fun q => decide_eq_false (fun z => z (hend q))) (e - (x3 + 1)).toNat (x3 + 1) (by omega) (fun i i0 i1 => decide_eq_true (hle i (by omega) i1))
    rw [hcons, ← e7, is59, rd_com, hw.2]
