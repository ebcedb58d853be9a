-- deps: 465 4306
theorem cons_q [DecidableEq Ob] : Ob.cons ≠ Ob.quote := Ob.sym_ne (by decide)
theorem call_const [DecidableEq Ob] {o f : Ob} (h : o.isCallOf f = true) (hq : f ≠ Ob.quote) : o.isConst = false := by
  obtain ⟨b, rfl⟩ := Ob.isCallOf_iff.mp h
  exact decide_eq_false hq
theorem nat_zero [DecidableEq Ob] {u : iST} (hT : TI u) {k : Int} (k0 : 0 ≤ k) (k1 : k < u.1 8) : ob u k = Ob.nat 0 ↔ (ob u k).isNat = true ∧ (ob u k).num = 0 := by
  constructor
  · intro e
    rw [e]
    exact ⟨Ob.nat_isNat 0, Ob.nat_num (by decide)⟩
  · rintro ⟨h1, h2⟩
    have a := (ob_isNat hT k0 k1).mp h1
    rw [ob_nat a, Ob.nat_num (hT.nat k0 k1 a).2.2.2.1] at h2
    rw [ob_nat a, h2]
theorem p_plain [DecidableEq Ob] {a : Int} {Q : Int → iST → Prop} {u : iST} {E : Sp.Env} (hT : TI u) (hU : TU u) (hN : Nd u E a) (hc : (ob u a).isCall = true) (f0 : 4 ≤ u.2.1 0 a) (f1 : u.2.1 0 a ≤ 16)
    (hq : ∀ k, (k = -1 ∧ ∀ x, Sp.plain (ob u a) ≠ some (.inl x)) ∨ (Nd u E k ∧ Sp.plain (ob u a) = some (.inl (ob u k))) → Q k u) : pw_plain a Q u := by
  have h8 := hT.1
  have n0 := hN.1
  have n1 := hN.2.1
  have hp : (ob u a).isPr = true := by
    cases e : ob u a with
    | var x => rw [e] at hc; cases hc
    | op x y => rfl
  obtain ⟨l0, l1, _, _, eL, _, ep⟩ := ob_lft hT n0 n1 hp
  have hF : (ob u a).isCallOf (ob u (u.2.1 0 a)) = true := Ob.isCallOf_iff.mpr ⟨_, ep⟩
  have hFq : ob u (u.2.1 0 a) ≠ Ob.quote := by
    intro z
    have := (kat hT hU 2 (by decide) (by decide) rfl l0 (by omega)).mpr z
    omega
  have har := base_ar hT hU E (f := u.2.1 0 a) (by omega) f1
  rw [if_neg (by omega)] at har
  have z0 := kn hT hU 0 (by decide) (by decide) rfl
  have z1 := kn hT hU 1 (by decide) (by decide) rfl
  have nd0 : Nd u E 0 := ⟨z0.1, z0.2.1, Tm_leaf (by rw [z0.2.2]; rfl), Ob.wt_leaf (by rw [z0.2.2]; rfl)⟩
  have nd1 : Nd u E 1 := ⟨z1.1, z1.2.1, Tm_leaf (by rw [z1.2.2]; rfl), Ob.wt_leaf (by rw [z1.2.2]; rfl)⟩
  have no : Sp.plain (ob u a) = none ∨ (∃ m, Sp.plain (ob u a) = some (.inr m)) → Q (-1) u := by
    rintro (h | ⟨m, h⟩)
    · exact hq _ (Or.inl ⟨rfl, fun x z => by rw [h] at z; cases z⟩)
    · exact hq _ (Or.inl ⟨rfl, fun x z => by rw [h] at z; cases z⟩)
  have nilQ : Sp.plain (ob u a) = some (.inl Ob.nil) → Q 0 u := fun h => hq 0 (Or.inr ⟨nd0, by rw [h, z0.2.2]⟩)
  have tQ : Sp.plain (ob u a) = some (.inl Ob.t) → Q 1 u := fun h => hq 1 (Or.inr ⟨nd1, by rw [h, z1.2.2]⟩)
  have main : ∀ x3 y0, Nd u E x3 → ob u x3 = Ob.item (ob u a) 1 → (u.2.1 0 a ≤ 9 → Nd u E y0 ∧ ob u y0 = Ob.item (ob u a) 2) → pw_plain_35 Q (u.2.1 0 a) x3 y0 u := by
    intro x3 y0 nx ex ny
    unfold pw_plain_35
    refine p_callK hT hU nx.1 nx.2.1 5 (by decide) (by decide) rfl (fun r5 h5 => ?_)
    rw [ex] at h5
    refine ⟨fun c4 => ?_, fun n4 => ⟨fun c5 => ?_, fun n5 => ⟨fun c6 => ?_, fun n6 => ⟨fun c7 => ?_, fun n7 => ⟨fun c8 => ?_, fun n8 => ⟨fun c9 => ?_, fun n9 => ⟨fun c10 => ?_, fun n10 => ⟨fun c11 => ?_, fun n11 => ⟨fun c12 => ?_, fun n12 => ⟨fun c13 => ?_, fun n13 => ⟨fun c14 => ?_, fun n14 => ?_⟩⟩⟩⟩⟩⟩⟩⟩⟩⟩⟩
    · have hL : Ob.lft (ob u a) = Ob.equal := by rw [eL, c4]; exact (kn hT hU 4 (by decide) (by decide) rfl).2.2
      obtain ⟨nY, eY⟩ := ny (by omega)
      have pl := plain_equal hL
      rw [← ex, ← eY] at pl
      have hin := hT.inj hU nx.1 nx.2.1 nY.1 nY.2.1
      refine ⟨fun hne => ?_, fun he => tQ (by rw [pl, if_pos (hin.mpr (Decidable.not_not.mp he))])⟩
      rw [if_neg (fun z => hne (hin.mp z))] at pl
      rw [← ex] at h5
      refine p_callK hT hU nY.1 nY.2.1 5 (by decide) (by decide) rfl (fun r6 h6 => ?_)
      have last : (Ob.isCallOf (ob u x3) Ob.cons && Ob.isConst (ob u y0) && !Ob.isPr (Ob.valOf (ob u y0))) = false → pw_plain_150 Q x3 r6 u := by
        intro hz
        unfold pw_plain_150
        refine ⟨fun hr => no ?_, fun hr => ?_⟩
        · refine Or.inl ?_
          have h6' := h6.f hr
          rw [pl, if_neg (by rw [h6']; simp), if_neg (by rw [hz]; decide), if_neg (by rw [h6']; simp)]
        · have h6' := h6.t hr
          refine p_isConstant hT hU nx.1 nx.2.1 nx.2.2.1 (fun r7 h7 => ⟨fun hd => ?_, fun hd => ?_⟩)
          · have h7' := h7.f hd
            by_cases cc : Ob.isCallOf (ob u x3) Ob.cons = true
            · exact no (Or.inr ⟨_, by rw [pl, if_pos (by rw [cc, h6']; rfl)]⟩)
            · refine no (Or.inl ?_)
              rw [pl, if_neg (by rw [Bool.and_eq_true]; exact fun z => cc z.1), if_neg (by rw [hz]; decide), if_neg (by rw [h6', h7']; simp)]
          · have h7' := h7.t hd
            have cc : Ob.isCallOf (ob u x3) Ob.cons = false := by
              cases c : Ob.isCallOf (ob u x3) Ob.cons with
              | false => rfl
              | true => rw [call_const c cons_q] at h7'; cases h7'
            refine p_valueOf hT hU nx.1 nx.2.1 nx.2.2.1 h7' (fun j j0 j1 ej => p_isPair hT j0 j1 (fun r8 h8 => ?_))
            rw [ej] at h8
            refine ⟨fun he => no (Or.inl ?_), fun he => nilQ ?_⟩
            · rw [pl, if_neg (by rw [cc]; simp), if_neg (by rw [hz]; decide), if_neg (by rw [h6', h7', h8.t he]; decide)]
            · rw [pl, if_neg (by rw [cc]; simp), if_neg (by rw [hz]; decide), if_pos (by rw [h6', h7', h8.f (Decidable.not_not.mp he)]; rfl)]
      refine ⟨fun hr => last (by rw [h5.f hr]; rfl), fun hr => ?_⟩
      have h5' := h5.t hr
      refine p_isConstant hT hU nY.1 nY.2.1 nY.2.2.1 (fun r7 h7 => ⟨fun hd => last (by rw [h7.f hd]; simp), fun hd => ?_⟩)
      have h7' := h7.t hd
      refine p_valueOf hT hU nY.1 nY.2.1 nY.2.2.1 h7' (fun j j0 j1 ej => p_isPair hT j0 j1 (fun r8 h8 => ?_))
      rw [ej] at h8
      refine ⟨fun he => last (by rw [h8.t he]; simp), fun he => nilQ ?_⟩
      have c6 : Ob.isCallOf (ob u y0) Ob.cons = false := by
        cases c : Ob.isCallOf (ob u y0) Ob.cons with
        | false => rfl
        | true => rw [call_const c cons_q] at h7'; cases h7'
      rw [pl, if_neg (by rw [c6]; simp), if_pos (by rw [h5', h7', h8.f (Decidable.not_not.mp he)]; rfl)]
    · have hL : Ob.lft (ob u a) = Ob.cons := by rw [eL, c5]; exact (kn hT hU 5 (by decide) (by decide) rfl).2.2
      refine no (Or.inl (plain_no ?_)); rw [hL]
      exact ⟨Ob.sym_ne (by decide), Ob.sym_ne (by decide), Ob.sym_ne (by decide), Ob.sym_ne (by decide), Ob.sym_ne (by decide), Ob.sym_ne (by decide), Ob.sym_ne (by decide)⟩
    · have hL : Ob.lft (ob u a) = Ob.implies := by rw [eL, c6]; exact (kn hT hU 6 (by decide) (by decide) rfl).2.2
      refine no (Or.inl (plain_no ?_)); rw [hL]
      exact ⟨Ob.sym_ne (by decide), Ob.sym_ne (by decide), Ob.sym_ne (by decide), Ob.sym_ne (by decide), Ob.sym_ne (by decide), Ob.sym_ne (by decide), Ob.sym_ne (by decide)⟩
    · have hL : Ob.lft (ob u a) = Ob.plus := by rw [eL, c7]; exact (kn hT hU 7 (by decide) (by decide) rfl).2.2
      refine no (Or.inl (plain_no ?_)); rw [hL]
      exact ⟨Ob.sym_ne (by decide), Ob.sym_ne (by decide), Ob.sym_ne (by decide), Ob.sym_ne (by decide), Ob.sym_ne (by decide), Ob.sym_ne (by decide), Ob.sym_ne (by decide)⟩
    · have hL : Ob.lft (ob u a) = Ob.minus := by rw [eL, c8]; exact (kn hT hU 8 (by decide) (by decide) rfl).2.2
      refine no (Or.inl (plain_no ?_)); rw [hL]
      exact ⟨Ob.sym_ne (by decide), Ob.sym_ne (by decide), Ob.sym_ne (by decide), Ob.sym_ne (by decide), Ob.sym_ne (by decide), Ob.sym_ne (by decide), Ob.sym_ne (by decide)⟩
    · have hL : Ob.lft (ob u a) = Ob.less := by rw [eL, c9]; exact (kn hT hU 9 (by decide) (by decide) rfl).2.2
      obtain ⟨nY, eY⟩ := ny (by omega)
      have pl := plain_less hL
      rw [← ex, ← eY] at pl
      have hin := hT.inj hU nx.1 nx.2.1 nY.1 nY.2.1
      have ny0 := nY.1
      refine ⟨fun he => nilQ (by rw [pl, if_pos (Or.inl (hin.mpr he))]), fun hne => ⟨fun z => by omega, fun _ => ?_⟩⟩
      have rest : ob u y0 ≠ Ob.nat 0 → Q (-1) u := by
        intro hz
        rw [if_neg (fun z => z.elim (fun z => hne (hin.mp z)) hz)] at pl
        cases e : Sp.fal (ob u x3) (ob u y0) with
        | none => rw [e] at pl; exact no (Or.inl pl)
        | some m => rw [e] at pl; exact no (Or.inr ⟨m, pl⟩)
      refine p_isNatural hT nY.1 nY.2.1 (fun r6 h6 => ⟨fun hd => rest (fun z => ?_), fun hd => ?_⟩)
      · rw [(nat_zero hT nY.1 nY.2.1).mp z |>.1] at h6
        have := h6.f hd
        cases this
      · have hn := h6.t hd
        have a := (ob_isNat hT nY.1 nY.2.1).mp hn
        have en : (ob u y0).num = u.2.2 (u.2.1 1 y0) := by rw [ob_nat a, Ob.nat_num (hT.nat nY.1 nY.2.1 a).2.2.2.1]
        unfold pw_value
        intro _ _ x ex _ _ _ y ey _
        subst ex ey
        refine ⟨fun he => rest (fun z => he (by rw [← en]; exact ((nat_zero hT nY.1 nY.2.1).mp z).2)), fun he => nilQ ?_⟩
        rw [pl, if_pos (Or.inr ((nat_zero hT nY.1 nY.2.1).mpr ⟨hn, by rw [en]; exact Decidable.not_not.mp he⟩))]
    · have hL : Ob.lft (ob u a) = Ob.consp := by rw [eL, c10]; exact (kn hT hU 10 (by decide) (by decide) rfl).2.2
      have pl := plain_consp hL
      refine ⟨fun hd => ?_, fun hd => tQ (by rw [pl, if_pos (h5.t hd)])⟩
      rw [if_neg (by rw [h5.f hd]; decide), ← ex] at pl
      exact p_isNumbered hT hU nx.1 nx.2.1 (fun r6 h6 => ⟨fun he => no (Or.inl (by rw [pl, if_neg (by rw [h6.f he]; decide)])), fun he => nilQ (by rw [pl, if_pos (h6.t he)])⟩)
    · have hL : Ob.lft (ob u a) = Ob.car := by rw [eL, c11]; exact (kn hT hU 11 (by decide) (by decide) rfl).2.2
      have pl := plain_car hL
      refine ⟨fun hd => no (Or.inl (by rw [pl, if_neg (by rw [h5.f hd]; decide)])), fun hd => ?_⟩
      rw [if_pos (h5.t hd)] at pl
      exact p_it hT nx (by rw [ex]; exact h5.t hd) cons_q (arOf_cons E) (by decide) (by decide) (by decide) (fun j nj ej => hq j (Or.inr ⟨nj, by rw [pl, ej, ex]; rfl⟩))
    · have hL : Ob.lft (ob u a) = Ob.cdr := by rw [eL, c12]; exact (kn hT hU 12 (by decide) (by decide) rfl).2.2
      have pl := plain_cdr hL
      refine ⟨fun hd => no (Or.inl (by rw [pl, if_neg (by rw [h5.f hd]; decide)])), fun hd => ?_⟩
      rw [if_pos (h5.t hd)] at pl
      exact p_it hT nx (by rw [ex]; exact h5.t hd) cons_q (arOf_cons E) (by decide) (by decide) (by decide) (fun j nj ej => hq j (Or.inr ⟨nj, by rw [pl, ej, ex]; rfl⟩))
    · have hL : Ob.lft (ob u a) = Ob.natp := by rw [eL, c13]; exact (kn hT hU 13 (by decide) (by decide) rfl).2.2
      have pl := plain_natp hL
      refine ⟨fun hd => ?_, fun hd => nilQ (by rw [pl, if_pos (h5.t hd)])⟩
      rw [if_neg (by rw [h5.f hd]; decide), ← ex] at pl
      exact p_isNumbered hT hU nx.1 nx.2.1 (fun r6 h6 => ⟨fun he => no (Or.inl (by rw [pl, if_neg (by rw [h6.f he]; decide)])), fun he => tQ (by rw [pl, if_pos (h6.t he)])⟩)
    · have hL : Ob.lft (ob u a) = Ob.symbolp := by rw [eL, c14]; exact (kn hT hU 14 (by decide) (by decide) rfl).2.2
      have pl := plain_symbolp hL
      refine ⟨fun hd => nilQ (by rw [pl, if_pos (by rw [h5.t hd]; rfl)]), fun hd => ?_⟩
      have h5' := h5.f (Decidable.not_not.mp hd)
      rw [← ex] at pl h5'
      exact p_isNumbered hT hU nx.1 nx.2.1 (fun r6 h6 => ⟨fun he => no (Or.inl (by rw [pl, if_neg (by rw [h5', h6.f he]; decide)])), fun he => nilQ (by rw [pl, if_pos (by rw [h6.t he]; simp)])⟩)
    · have c : u.2.1 0 a = 15 ∨ u.2.1 0 a = 16 := by omega
      rcases c with c | c
      · have hL : Ob.lft (ob u a) = Ob.not := by rw [eL, c]; exact (kn hT hU 15 (by decide) (by decide) rfl).2.2
        refine no (Or.inl (plain_no ?_)); rw [hL]
        exact ⟨Ob.sym_ne (by decide), Ob.sym_ne (by decide), Ob.sym_ne (by decide), Ob.sym_ne (by decide), Ob.sym_ne (by decide), Ob.sym_ne (by decide), Ob.sym_ne (by decide)⟩
      · have hL : Ob.lft (ob u a) = Ob.height := by rw [eL, c]; exact (kn hT hU 16 (by decide) (by decide) rfl).2.2
        refine no (Or.inl (plain_no ?_)); rw [hL]
        exact ⟨Ob.sym_ne (by decide), Ob.sym_ne (by decide), Ob.sym_ne (by decide), Ob.sym_ne (by decide), Ob.sym_ne (by decide), Ob.sym_ne (by decide), Ob.sym_ne (by decide)⟩
  unfold pw_plain
  intro _ _ x ex _
  subst ex
  refine p_it hT hN hF hFq har (by decide) (by split <;> omega) (by split <;> omega) (fun x3 nx ex3 => ?_)
  refine ⟨fun z => by omega, fun _ => ⟨fun h9 => ?_, fun h9 => ?_⟩⟩
  · unfold pw_plain_34
    exact main x3 (-1) nx ex3 (fun z => by omega)
  · rw [if_pos (by omega)] at har
    exact p_it hT hN hF hFq har (by decide) (by decide) (by decide) (fun y0 ny ey => main x3 y0 nx ex3 (fun _ => ⟨ny, ey⟩))
