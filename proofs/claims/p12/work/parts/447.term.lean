-- deps: 446
/-! the reference, partial: terms, their SIZES -/
def cap (x : Int) : Int := if 30000 < x then 30000 else x
/-- what work on terms leaves -/
def GZ [DecidableEq Ob] (n : Nat → Bool) (u v : iST) : Prop := TI v ∧ TU v ∧ Ext u v ∧ (∀ k, 0 ≤ k → k < u.1 8 → v.2.1 3 k = u.2.1 3 k ∨ u.2.1 3 k = 0) ∧ Fx n u v
theorem GR.gz [DecidableEq Ob] {u v : iST} (h : GR u v) : GZ fT u v := ⟨h.1, h.2.1, h.2.2.1, fun k k0 k1 => Or.inl (h.2.2.2.1.1 k k0 k1), h.2.2.2.2⟩
theorem GZ.mono [DecidableEq Ob] {n n' : Nat → Bool} {u v : iST} (h : GZ n u v) (hn : ∀ k, n' k = false → n k = false) : GZ n' u v := ⟨h.1, h.2.1, h.2.2.1, h.2.2.2.1, h.2.2.2.2.mono hn⟩
theorem GZ.rf [DecidableEq Ob] {n : Nat → Bool} {u : iST} (hT : TI u) (hU : TU u) : GZ n u u := ⟨hT, hU, Ext.rf u, fun _ _ _ => Or.inl rfl, Fx.rf _ u⟩
theorem GZ.le [DecidableEq Ob] {n : Nat → Bool} {u v : iST} (h : GZ n u v) : u.1 8 ≤ v.1 8 := h.2.2.1.1.1
theorem GZ.tr [DecidableEq Ob] {n : Nat → Bool} {u v w : iST} (h : GZ n u v) (g : GZ n v w) : GZ n u w := by
  refine ⟨g.1, g.2.1, h.2.2.1.tr g.2.2.1, fun k k0 k1 => ?_, h.2.2.2.2.tr g.2.2.2.2⟩
  have hl := h.le
  rcases h.2.2.2.1 k k0 k1 with a | a
  · rcases g.2.2.2.1 k k0 (by omega) with b | b
    · exact Or.inl (b.trans a)
    · exact Or.inr (a.symm.trans b)
  · exact Or.inr a
theorem GZ.ob [DecidableEq Ob] {n : Nat → Bool} {u v : iST} (h : GZ n u v) (hT : TI u) {k : Int} (k0 : 0 ≤ k) (k1 : k < u.1 8) : ob v k = ob u k := h.2.2.1.ob hT h.1 k0 k1
/-- a call whose SIZE is written down -/
def szd [DecidableEq Ob] (u : iST) (o : Ob) : Prop := ∃ k, 0 ≤ k ∧ k < u.1 8 ∧ ob u k = o ∧ u.2.1 3 k = cap o.sz
/-- terms (false), rows of them (true) -/
def tmM [DecidableEq Ob] (u : iST) : Bool → Ob → Prop
  | true, .op a b => tmM u false a ∧ tmM u true b
  | true, .var z => .var z = Ob.nil
  | false, .op a b => if a = Ob.quote then (∃ x, b = Ob.pr x Ob.nil ∧ Ob.constOf x = Ob.pr a b) else Ob.isSym a = true ∧ tmM u true b ∧ szd u (.pr a b)
  | false, .var _ => True
def Tm [DecidableEq Ob] (u : iST) (o : Ob) : Prop := tmM u false o
theorem Ob.szM_pos [DecidableEq Ob] : ∀ (m : Bool) (o : Ob), 0 ≤ o.szM m ∧ (m = false → 1 ≤ o.szM m)
  | true, .op a b => by
    have h := Ob.szM_pos false a
    have g := Ob.szM_pos true b
    exact ⟨by show 0 ≤ Ob.szM false a + Ob.szM true b; omega, fun z => by cases z⟩
  | true, .var _ => ⟨Int.le_refl _, fun z => by cases z⟩
  | false, .op a b => by
    have g := Ob.szM_pos true b
    have e : Ob.szM false (.pr a b) = if a = Ob.quote then 1 else 1 + Ob.szM true b := rfl
    rw [e]
    split <;> exact ⟨by omega, fun _ => by omega⟩
  | false, .var _ => ⟨(by decide : (0 : Int) ≤ 1), fun _ => Int.le_refl _⟩
theorem Ob.sz_pos [DecidableEq Ob] (o : Ob) : 1 ≤ o.sz := (Ob.szM_pos false o).2 rfl
theorem szd.mono [DecidableEq Ob] {n : Nat → Bool} {u v : iST} (h : GZ n u v) (hT : TI u) {o : Ob} (a : szd u o) : szd v o := by
  obtain ⟨k, k0, k1, e, z⟩ := a
  have hl := h.le
  refine ⟨k, k0, by omega, (h.ob hT k0 k1).trans e, ?_⟩
  rcases h.2.2.2.1 k k0 k1 with b | b
  · exact b.trans z
  · have := Ob.sz_pos o
    rw [b] at z
    unfold cap at z
    split at z <;> omega
theorem tmM.mono [DecidableEq Ob] {n : Nat → Bool} {u v : iST} (h : GZ n u v) (hT : TI u) : ∀ (m : Bool) (o : Ob), tmM u m o → tmM v m o
  | true, .op a b, ⟨x, y⟩ => ⟨tmM.mono h hT false a x, tmM.mono h hT true b y⟩
  | true, .var _, x => x
  | false, .op a b, x => by
    have e : ∀ w, tmM w false (.pr a b) = if a = Ob.quote then (∃ x, b = Ob.pr x Ob.nil ∧ Ob.constOf x = Ob.pr a b) else Ob.isSym a = true ∧ tmM w true b ∧ szd w (.pr a b) := fun _ => rfl
    rw [e] at x ⊢
    split at x
    · next c => rw [if_pos c]; exact x
    · next c => rw [if_neg c]; exact ⟨x.1, tmM.mono h hT true b x.2.1, x.2.2.mono h hT⟩
  | false, .var _, x => x
theorem Tm.mono [DecidableEq Ob] {n : Nat → Bool} {u v : iST} (h : GZ n u v) (hT : TI u) {o : Ob} (a : Tm u o) : Tm v o := tmM.mono h hT false o a
theorem p_sizeOf [DecidableEq Ob] {k : Int} {Q : Int → iST → Prop} {u : iST} (hT : TI u) (hU : TU u) (k0 : 0 ≤ k) (k1 : k < u.1 8) (ht : Tm u (ob u k)) (h : Q (cap (ob u k).sz) u) : pw_sizeOf k Q u := by
  unfold pw_sizeOf
  refine p_isCall hT hU k0 k1 (fun r hr => ⟨fun hc => ?_, fun hc => ?_⟩)
  · have e : cap (ob u k).sz = 1 := by
      have hf := hr.f hc
      cases e : ob u k with
      | var x => rfl
      | op a b =>
        rw [e] at hf
        have hf : decide (a ≠ Ob.quote) = false := hf
        have : a = Ob.quote := by
          exact Classical.byContradiction (fun z => of_decide_eq_false hf z)
        have e2 : (Ob.pr a b).sz = 1 := if_pos this
        rw [e2]; rfl
    rw [← e]; exact h
  · intro _ _ x ex _
    subst ex
    have e : u.2.1 3 k = cap (ob u k).sz := by
      have hf := hr.t hc
      obtain ⟨a, _, _, _, _, _, e⟩ := ob_lft hT k0 k1 (by cases e : ob u k with
        | var x => rw [e] at hf; cases hf
        | op a b => rfl)
      rw [e] at ht hf
      have hq : ob u (u.2.1 0 k) ≠ Ob.quote := of_decide_eq_true hf
      have ht' : if ob u (u.2.1 0 k) = Ob.quote then _ else _ := ht
      rw [if_neg hq, ← e] at ht'
      obtain ⟨j, j0, j1, ej, z⟩ := ht'.2.2
      rw [(hT.inj hU j0 j1 k0 k1).mp ej] at z
      exact z
    rw [e]; exact h
