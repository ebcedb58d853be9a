-- deps: 454 4302
/-! the reference, partial: what is not -/
def Ob.neg [DecidableEq Ob] (o : Ob) : Ob := if o.isCallOf Ob.not then o.item 1 else if o = Ob.nil then Ob.t else if o.isConst then Ob.nil else .pr Ob.not (.pr o Ob.nil)
def nb [DecidableEq Ob] (u : iST) (o : Ob) : Int := if o.isCallOf Ob.not = true ∨ o.isConst = true then u.1 61 else bw u (Ob.neg o)
theorem p_notOf [DecidableEq Ob] {a : Int} {Q : Int → iST → Prop} {u : iST} (hT : TI u) (hU : TU u) (h71 : 0 ≤ u.1 71) (a0 : 0 ≤ a) (a1 : a < u.1 8) (ta : Tm u (ob u a)) (hn : (ob u a).isCallOf Ob.not = true → ∃ x, ob u a = .pr Ob.not (.pr x Ob.nil))
    (hq : ∀ k v, GM u v → 0 ≤ k → k < v.1 8 → ob v k = Ob.neg (ob u a) → Tm v (ob v k) → v.1 61 = nb u (ob u a) → Q k v) : pw_notOf a Q u := by
  have k15 := kn hT hU 15 (by decide) (by decide) rfl
  have k0 := kn hT hU 0 (by decide) (by decide) rfl
  have k1 := kn hT hU 1 (by decide) (by decide) rfl
  have e0 := kat hT hU 0 (by decide) (by decide) rfl a0 a1
  unfold pw_notOf
  refine p_isCallOf hT hU a0 a1 k15.1 k15.2.1 (fun r hr => ?_)
  rw [k15.2.2] at hr
  refine ⟨fun hc => ?_, fun hc => ?_⟩
  · have h1 := hr.f hc
    have g1 : ¬ (ob u a).isCallOf Ob.not = true := by rw [h1]; decide
    refine ⟨fun hd => ?_, fun hd => ?_⟩
    · have g2 : ob u a ≠ Ob.nil := fun z => hd (e0.mpr z)
      refine p_isConstant hT hU a0 a1 ta (fun r2 hr2 => ⟨fun he => ?_, fun he => ?_⟩)
      · have g3 : ¬ (ob u a).isConst = true := by rw [hr2.f he]; decide
        have en : Ob.neg (ob u a) = .pr Ob.not (.pr (ob u a) Ob.nil) := by unfold Ob.neg; rw [if_neg g1, if_neg g2, if_neg g3]
        refine p_made1 hT hU h71 k15.1 k15.2.1 (by rw [k15.2.2]; exact Ob.sym_isSym _) (by rw [k15.2.2]; exact Ob.sym_ne (by decide)) a0 a1 ta (fun k v hG b0 b1 eb tb fb => hq k v hG b0 b1 ?_ tb ?_)
        · rw [eb, en, k15.2.2]
        · unfold nb
          rw [if_neg (fun z => z.elim g1 g3), fb, eb, en, k15.2.2]
      · have g3 := hr2.t he
        refine hq 0 u (GM.rf hT hU) k0.1 k0.2.1 ?_ (Tm_leaf (by rw [k0.2.2]; rfl)) ?_
        · unfold Ob.neg; rw [if_neg g1, if_neg g2, if_pos g3, k0.2.2]
        · unfold nb; rw [if_pos (Or.inr g3)]
    · have g2 : ob u a = Ob.nil := e0.mp (Decidable.not_not.mp hd)
      refine hq 1 u (GM.rf hT hU) k1.1 k1.2.1 ?_ (Tm_leaf (by rw [k1.2.2]; rfl)) ?_
      · unfold Ob.neg; rw [if_neg g1, if_pos g2, k1.2.2]
      · have : (ob u a).isConst = true := by rw [g2]; show (Ob.isNat Ob.nil || decide (Ob.nil = Ob.nil) || decide (Ob.nil = Ob.t)) = true; simp
        unfold nb; rw [if_pos (Or.inr this)]
  · have h1 := hr.t hc
    obtain ⟨x, ex⟩ := hn h1
    obtain ⟨l0, l1, q0, q1, _, _, ep⟩ := ob_lft hT a0 a1 (by rw [ex]; rfl)
    have er : ob u (u.2.1 1 a) = .pr x Ob.nil := by
      rw [ex] at ep; exact (Ob.pr.inj ep).2.symm
    obtain ⟨m0, m1, _, _, _, _, ep2⟩ := ob_lft hT q0 (by omega) (by rw [er]; rfl)
    rw [er] at ep2
    have em := (Ob.pr.inj ep2).1
    intro _ _ y ey _ _ _ z ez _
    subst ey ez
    refine hq _ u (GM.rf hT hU) m0 (by omega) ?_ ?_ ?_
    · unfold Ob.neg; rw [if_pos h1, ← em, ex]; rfl
    · rw [← em]
      rw [ex] at ta
      have := (Tm_call ta (Ob.sym_ne (by decide))).2.1
      exact this.1
    · unfold nb; rw [if_pos (Or.inl h1)]
/-- how the making of a term came out -/
def MK [DecidableEq Ob] (m : Sp.M Ob) (s : Sp.Wk) (v : iST) (k : Int) : Prop := (∃ s', m s = .ok (ob v k) s' ∧ s'.1 = s.1 ∧ v.1 61 = 0) ∨ (∃ s', m s = .error () s' ∧ s'.1 = s.1 ∧ v.1 61 ≠ 0)
theorem MK_big [DecidableEq Ob] {o : Ob} {n : Nat} {s : Sp.Wk} {u v : iST} {k : Int} (h0 : u.1 61 = 0) (e : ob v k = o) (h : v.1 61 = bw u (ob v k)) : MK (Sp.big o n) s v k := by
  unfold bw at h
  rw [if_neg (not_not_intro h0), e] at h
  by_cases c : 120 < o.sz
  · rw [if_pos c] at h
    exact Or.inr ⟨(s.1, s.2 + n), if_pos c, rfl, by omega⟩
  · rw [if_neg c] at h
    exact Or.inl ⟨(s.1, s.2 + n), by rw [e]; exact if_neg c, rfl, h⟩
theorem MK_not [DecidableEq Ob] {o : Ob} {s : Sp.Wk} {u v : iST} {k : Int} (h0 : u.1 61 = 0) (e : ob v k = Ob.neg o) (h : v.1 61 = nb u o) : MK (Sp.mkNot o) s v k := by
  unfold nb at h
  unfold Ob.neg at e
  unfold Sp.mkNot
  by_cases c1 : o.isCallOf Ob.not = true
  · rw [if_pos c1] at e ⊢
    rw [if_pos (Or.inl c1)] at h
    exact Or.inl ⟨s, by rw [e]; rfl, rfl, h.trans h0⟩
  · rw [if_neg c1] at e ⊢
    by_cases c2 : o = Ob.nil
    · rw [if_pos c2] at e ⊢
      have : o.isConst = true := by rw [c2]; show (Ob.isNat Ob.nil || decide (Ob.nil = Ob.nil) || decide (Ob.nil = Ob.t)) = true; simp
      rw [if_pos (Or.inr this)] at h
      exact Or.inl ⟨s, by rw [e]; rfl, rfl, h.trans h0⟩
    · rw [if_neg c2] at e ⊢
      by_cases c3 : o.isConst = true
      · rw [if_pos c3] at e ⊢
        rw [if_pos (Or.inr c3)] at h
        exact Or.inl ⟨s, by rw [e]; rfl, rfl, h.trans h0⟩
      · rw [if_neg c3] at e ⊢
        rw [if_neg (fun z => z.elim c1 c3)] at h
        refine MK_big h0 e ?_
        rw [h, e]
        unfold Ob.neg
        rw [if_neg c1, if_neg c2, if_neg c3]
theorem bw_ne [DecidableEq Ob] {u : iST} {o : Ob} (h : u.1 61 ≠ 0) : bw u o ≠ 0 := by unfold bw; rw [if_pos h]; exact h
theorem nb_ne [DecidableEq Ob] {u : iST} {o : Ob} (h : u.1 61 ≠ 0) : nb u o ≠ 0 := by unfold nb; split; exact h; exact bw_ne h
