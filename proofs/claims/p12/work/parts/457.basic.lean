-- deps: 456 4303
/-! the reference, partial: base functions -/
theorem num_leaf [DecidableEq Ob] {o : Ob} (h : o.isNat = false) : o.num = 0 := by
  cases o with
  | op a b => rfl
  | var x =>
    have h : (x % 2 == 0) = false := h
    have : ¬ x % 2 = 0 := by simpa using h
    exact if_neg this
theorem num_range [DecidableEq Ob] {u : iST} (hT : TI u) {k : Int} (k0 : 0 ≤ k) (k1 : k < u.1 8) : 0 ≤ (ob u k).num ∧ (ob u k).num ≤ 4611686018427387903 := by
  cases h : (ob u k).isNat with
  | false => rw [num_leaf h]; omega
  | true =>
    have a := (ob_isNat hT k0 k1).mp h
    have hn := hT.nat k0 k1 a
    rw [ob_nat a, Ob.nat_num hn.2.2.2.1]
    exact hn.2.2.2
theorem p_numberOf [DecidableEq Ob] {k : Int} {Q : Int → iST → Prop} {u : iST} (hT : TI u) (k0 : 0 ≤ k) (k1 : k < u.1 8) (h : Q (ob u k).num u) : pw_numberOf k Q u := by
  unfold pw_numberOf
  refine p_isNatural hT k0 k1 (fun r hr => ⟨fun hc => ?_, fun hc => ?_⟩)
  · rw [num_leaf (hr.f hc)] at h; exact h
  · have a := (ob_isNat hT k0 k1).mp (hr.t hc)
    rw [ob_nat a, Ob.nat_num (hT.nat k0 k1 a).2.2.2.1] at h
    unfold pw_value
    intro _ _ x ex _ _ _ y ey _
    subst ex ey
    exact h
theorem p_truth [DecidableEq Ob] {r : Int} {b : Bool} {Q : Int → iST → Prop} {u : iST} (hT : TI u) (hU : TU u) (hb : bq r b) (h : ∀ k, 0 ≤ k → k < u.1 8 → ob u k = Ob.tr b → Q k u) : pw_truth r Q u := by
  have k0 := kn hT hU 0 (by decide) (by decide) rfl
  have k1 := kn hT hU 1 (by decide) (by decide) rfl
  unfold pw_truth
  refine ⟨fun hc => h 0 k0.1 k0.2.1 ?_, fun hc => h 1 k1.1 k1.2.1 ?_⟩
  · rw [k0.2.2, hb.f hc]; rfl
  · rw [k1.2.2, hb.t hc]; rfl
theorem bq0 [DecidableEq Ob] {b : Bool} (h : b = false) : bq 0 b := ⟨fun _ => h, fun _ => rfl⟩
theorem bq1 [DecidableEq Ob] {b : Bool} (h : b = true) : bq 1 b := ⟨fun z => absurd z (by decide), fun z => by rw [h] at z; cases z⟩
theorem hgt_low [DecidableEq Ob] : ∀ o : Ob, 0 ≤ o.hgt
  | .var _ => Int.le_refl _
  | .op a b => by
    have := hgt_low a
    have := hgt_low b
    show 0 ≤ 1 + (if Ob.hgt b < Ob.hgt a then Ob.hgt a else Ob.hgt b)
    split <;> omega
/-- how a base function came out -/
def BA [DecidableEq Ob] (u v : iST) (k : Int) (r : Option Ob) : Prop := GR u v ∧ ((r = none ∧ k = -1) ∨ (0 ≤ k ∧ k < v.1 8 ∧ r = some (ob v k)))
theorem p_basic [DecidableEq Ob] {f lo : Int} {Q : Int → iST → Prop} {u : iST} (hT : TI u) (hU : TU u) (f0 : 4 ≤ f) (f1 : f ≤ 16) (a0 : 0 ≤ u.2.1 86 lo) (a1 : u.2.1 86 lo < u.1 8) (hb : f ≤ 9 → 0 ≤ u.2.1 86 (lo + 1) ∧ u.2.1 86 (lo + 1) < u.1 8)
    (hq : ∀ k v, (∀ B, (f ≤ 9 → B = ob u (u.2.1 86 (lo + 1))) → BA u v k (Ob.base (ob u f) (ob u (u.2.1 86 lo)) B)) → Q k v) : pw_basic f lo Q u := by
  have h8 := hT.1
  have z0 := kn hT hU 0 (by decide) (by decide) rfl
  have ea0 := kat hT hU 0 (by decide) (by decide) rfl a0 a1
  have rg := num_range hT a0 a1
  have same : ∀ k, 0 ≤ k → k < u.1 8 → (∀ B, (f ≤ 9 → B = ob u (u.2.1 86 (lo + 1))) → Ob.base (ob u f) (ob u (u.2.1 86 lo)) B = some (ob u k)) → Q k u :=
    fun k k0 k1 h => hq k u (fun B hB => ⟨GR.rf hT hU, Or.inr ⟨k0, k1, h B hB⟩⟩)
  unfold pw_basic
  intro _ _ v1 e1 _ _ _ _ v3 e3 _
  subst e1 e3
  refine ⟨fun hc => ?_, fun n4 => ⟨fun hc => ?_, fun n5 => ⟨fun hc => ?_, fun n6 => ⟨fun hc => ?_, fun n7 => ⟨fun hc => ?_, fun n8 => ⟨fun hc => ?_, fun n9 => ⟨fun hc => ?_, fun n10 => ⟨fun hc => ?_, fun n11 => ⟨fun hc => ?_, fun n12 => ⟨fun hc => ?_, fun n13 => ⟨fun hc => ?_, fun n14 => ⟨fun hc => ?_, fun n15 => ⟨fun hc => ?_, fun n16 => by omega⟩⟩⟩⟩⟩⟩⟩⟩⟩⟩⟩⟩⟩
  · obtain ⟨b0, b1⟩ := hb (by omega)
    have kf := kn hT hU 4 (by decide) (by decide) rfl
    subst hc
    refine ⟨fun hd => ?_, fun hd => ?_⟩ <;> unfold pw_basic_95
    · refine p_truth (b := decide (ob u (u.2.1 86 lo) = ob u (u.2.1 86 (lo + 1)))) hT hU (bq0 (decide_eq_false (fun z => hd ((hT.inj hU a0 a1 b0 b1).mp z)))) (fun k k0 k1 e => same k k0 k1 (fun B hB => ?_))
      rw [hB (by omega), kf.2.2, base_equal, e]
    · refine p_truth (b := decide (ob u (u.2.1 86 lo) = ob u (u.2.1 86 (lo + 1)))) hT hU (bq1 (decide_eq_true (by rw [Decidable.not_not.mp hd]))) (fun k k0 k1 e => same k k0 k1 (fun B hB => ?_))
      rw [hB (by omega), kf.2.2, base_equal, e]
  · obtain ⟨b0, b1⟩ := hb (by omega)
    have kf := kn hT hU 5 (by decide) (by decide) rfl
    subst hc
    refine p_pair hT hU a0 a1 b0 b1 (fun k v hR k0 k1 e => hq k v (fun B hB => ⟨hR, Or.inr ⟨k0, k1, ?_⟩⟩))
    rw [hB (by omega), kf.2.2, base_cons, e]
  · obtain ⟨b0, b1⟩ := hb (by omega)
    have kf := kn hT hU 6 (by decide) (by decide) rfl
    have eb0 := kat hT hU 0 (by decide) (by decide) rfl b0 b1
    subst hc
    have go : ∀ r, bq r (decide (ob u (u.2.1 86 lo) = Ob.nil) || decide (ob u (u.2.1 86 (lo + 1)) ≠ Ob.nil)) → pw_basic_121 Q r u := by
      intro r hr
      unfold pw_basic_121
      refine p_truth hT hU hr (fun k k0 k1 e => same k k0 k1 (fun B hB => ?_))
      rw [hB (by omega), kf.2.2, base_implies, e]
    refine ⟨fun hd => ?_, fun hd => ⟨fun he => ?_, fun he => ?_⟩⟩
    · unfold pw_basic_116
      exact go 1 (bq1 (by rw [decide_eq_true (ea0.mp hd)]; rfl))
    · exact go 0 (bq0 (by rw [decide_eq_false (fun z => hd (ea0.mpr z)), decide_eq_false (not_not_intro (eb0.mp he))]; rfl))
    · unfold pw_basic_116
      exact go 1 (bq1 (by rw [decide_eq_true (show ob u (u.2.1 86 (lo + 1)) ≠ Ob.nil from fun z => he (eb0.mpr z)), Bool.or_true]))
  · obtain ⟨b0, b1⟩ := hb (by omega)
    have kf := kn hT hU 7 (by decide) (by decide) rfl
    have rg2 := num_range hT b0 b1
    subst hc
    refine p_numberOf hT a0 a1 (p_numberOf hT b0 b1 (fun _ => ⟨fun hd => ?_, fun hd => ?_⟩))
    · refine p_numberOf hT a0 a1 (p_numberOf hT b0 b1 (fun _ => ?_))
      refine p_natural hT hU (by omega) (by omega) (fun k v hR k0 k1 e => hq k v (fun B hB => ⟨hR, Or.inr ⟨k0, k1, ?_⟩⟩))
      rw [hB (by omega), kf.2.2, base_plus, if_neg (by omega), e]
    · refine hq _ u (fun B hB => ⟨GR.rf hT hU, Or.inl ⟨?_, rfl⟩⟩)
      rw [hB (by omega), kf.2.2, base_plus, if_pos (by omega)]
  · obtain ⟨b0, b1⟩ := hb (by omega)
    have kf := kn hT hU 8 (by decide) (by decide) rfl
    have rg2 := num_range hT b0 b1
    subst hc
    have go : ∀ x, x = (if (ob u (u.2.1 86 (lo + 1))).num < (ob u (u.2.1 86 lo)).num then (ob u (u.2.1 86 lo)).num - (ob u (u.2.1 86 (lo + 1))).num else 0) → pw_basic_197 Q x u := by
      intro x ex
      unfold pw_basic_197
      refine p_natural hT hU (by rw [ex]; split <;> omega) (by rw [ex]; split <;> omega) (fun k v hR k0 k1 e => hq k v (fun B hB => ⟨hR, Or.inr ⟨k0, k1, ?_⟩⟩))
      rw [hB (by omega), kf.2.2, base_minus, e, ex]
    refine p_numberOf hT a0 a1 (p_numberOf hT b0 b1 ⟨fun hd => go _ (if_neg (by omega)).symm, fun hd => ?_⟩)
    exact p_numberOf hT a0 a1 (p_numberOf hT b0 b1 (fun _ => go _ (if_pos (by omega)).symm))
  · obtain ⟨b0, b1⟩ := hb (by omega)
    have kf := kn hT hU 9 (by decide) (by decide) rfl
    subst hc
    have go : ∀ r, bq r (decide ((ob u (u.2.1 86 lo)).num < (ob u (u.2.1 86 (lo + 1))).num)) → pw_basic_221 Q r u := by
      intro r hr
      unfold pw_basic_221
      refine p_truth hT hU hr (fun k k0 k1 e => same k k0 k1 (fun B hB => ?_))
      rw [hB (by omega), kf.2.2, base_less, e]
    exact p_numberOf hT a0 a1 (p_numberOf hT b0 b1 ⟨fun hd => go 0 (bq0 (decide_eq_false (by omega))), fun hd => go 1 (bq1 (decide_eq_true (by omega)))⟩)
  · have kf := kn hT hU 10 (by decide) (by decide) rfl
    subst hc
    refine p_isPair hT a0 a1 (fun r hr => p_truth hT hU hr (fun k k0 k1 e => same k k0 k1 (fun B hB => ?_)))
    rw [kf.2.2, base_consp, e]
  · have kf := kn hT hU 11 (by decide) (by decide) rfl
    subst hc
    refine p_isPair hT a0 a1 (fun r hr => ⟨fun hd => same 0 z0.1 z0.2.1 (fun B hB => ?_), fun hd => ?_⟩)
    · rw [kf.2.2, base_car, z0.2.2]
      have := hr.f hd
      cases e : ob u (u.2.1 86 lo) with
      | var x => rfl
      | op a b => rw [e] at this; cases this
    · obtain ⟨l0, l1, _, _, el, _⟩ := ob_lft hT a0 a1 (hr.t hd)
      intro _ _ x ex _
      subst ex
      exact same _ l0 (by omega) (fun B hB => by rw [kf.2.2, base_car, el])
  · have kf := kn hT hU 12 (by decide) (by decide) rfl
    subst hc
    refine p_isPair hT a0 a1 (fun r hr => ⟨fun hd => same 0 z0.1 z0.2.1 (fun B hB => ?_), fun hd => ?_⟩)
    · rw [kf.2.2, base_cdr, z0.2.2]
      have := hr.f hd
      cases e : ob u (u.2.1 86 lo) with
      | var x => rfl
      | op a b => rw [e] at this; cases this
    · obtain ⟨_, _, l0, l1, _, el, _⟩ := ob_lft hT a0 a1 (hr.t hd)
      intro _ _ x ex _
      subst ex
      exact same _ l0 (by omega) (fun B hB => by rw [kf.2.2, base_cdr, el])
  · have kf := kn hT hU 13 (by decide) (by decide) rfl
    subst hc
    refine p_isNatural hT a0 a1 (fun r hr => p_truth hT hU hr (fun k k0 k1 e => same k k0 k1 (fun B hB => ?_)))
    rw [kf.2.2, base_natp, e]
  · have kf := kn hT hU 14 (by decide) (by decide) rfl
    subst hc
    refine p_isSymbol hT a0 a1 (fun r hr => p_truth hT hU hr (fun k k0 k1 e => same k k0 k1 (fun B hB => ?_)))
    rw [kf.2.2, base_symbolp, e]
  · have kf := kn hT hU 15 (by decide) (by decide) rfl
    subst hc
    refine ⟨fun hd => ?_, fun hd => ?_⟩ <;> unfold pw_basic_311
    · refine p_truth hT hU (bq0 (decide_eq_false (fun z => hd (ea0.mpr z)))) (fun k k0 k1 e => same k k0 k1 (fun B hB => ?_))
      rw [kf.2.2, base_not, e]
    · refine p_truth hT hU (bq1 (decide_eq_true (ea0.mp (Decidable.not_not.mp hd)))) (fun k k0 k1 e => same k k0 k1 (fun B hB => ?_))
      rw [kf.2.2, base_not, e]
  · have kf := kn hT hU 16 (by decide) (by decide) rfl
    subst hc
    intro _ _ x ex _
    have hh := (hU.2.2.1 _ a0 a1).1
    have hn := (hT.node a0 a1)
    rw [hh] at ex
    subst ex
    refine p_natural hT hU (hgt_low _) (by have := hn.2.1; have := hn.2.2.1; rw [← hh]; have := hT.le; omega) (fun k v hR k0 k1 e => hq k v (fun B hB => ⟨hR, Or.inr ⟨k0, k1, ?_⟩⟩))
    rw [kf.2.2, base_height, e]
