-- deps: 441
/-! the reference, partial: naturals -/
def slotN (x : Int) : Int := slotF (wl2i x) (wl2i (wlshr x 32))
theorem p_natural [DecidableEq Ob] {x : Int} {Q : Int → iST → Prop} {u : iST} (hT : TI u) (hU : TU u) (x0 : 0 ≤ x) (x1 : x ≤ 4611686018427387903)
    (hq : ∀ k v, GR u v → 0 ≤ k → k < v.1 8 → ob v k = .nat x → Q k v) : pw_natural x Q u := by
  have h8 := hT.1
  have hc6 := hT.2.2.2.2.1
  have hcr := cnt_r (u.2.1 0) (-1) (u.1 8).toNat
  have hr := slotF_r (wl2i x) (wl2i (wlshr x 32))
  unfold pw_natural
  intro v1 e1 _ v2 e2 _ v3 e3 _
  subst e1 e2 e3
  refine p_slot ?_
  intro _ _ x4 ex _
  have hh := hT.head hr.1 hr.2
  unfold HeadOk at hh
  rw [← ex] at hh
  refine pw_natural_19_i (fun y1 x3 x4 v => v = u ∧ y1 = x ∧ x3 = slotN x ∧ -1 ≤ x4 ∧ x4 < u.1 8 ∧ (x4 = -1 ∨ slotv u x4 = slotN x) ∧ ∀ j, 0 ≤ j → j < u.1 8 → slotv u j = slotN x → x4 < j → u.2.1 0 j = -1 → u.2.2 (u.2.1 1 j) ≠ x) ?_ ⟨rfl, rfl, rfl, hh.1, hh.2.1, hh.2.2.1, fun j j0 j1 hj hx => absurd (hh.2.2.2 j j0 j1 hj) (by omega)⟩
  intro y1 x3 x4 v hI
  obtain ⟨rfl, rfl, rfl, q1, q2, q3, q4⟩ := hI
  unfold pw_natural_19b
  refine ⟨fun hc => ?_, fun hc => ?_⟩
  · intro v6 e6 _ _ hm w6 ew v7 e7 _ _ w7 ew7 v9 e9 _ _
    subst e6 ew e7 ew7 e9
    have e6 : (iI (iL v (v.1 6) y1) 6 ((iL v (v.1 6) y1).1 6 + 1)).1 6 - 1 = v.1 6 := by
      show v.1 6 + 1 - 1 = v.1 6
      omega
    rw [e6]
    have hnew : ∀ k, 0 ≤ k → k < v.1 8 → ob v k ≠ .nat y1 := by
      intro k k0 k1 e
      rcases hT.cases k0 k1 with a | a | a
      · rw [ob_nat a] at e
        refine q4 k k0 k1 ?_ (by omega) a (Ob.nat.inj e (hT.nat k0 k1 a).2.2.2.1 x0)
        unfold slotv
        rw [if_pos a, Ob.nat.inj e (hT.nat k0 k1 a).2.2.2.1 x0]
        rfl
      · rw [ob_sym a] at e; exact absurd e.symm Ob.nat_ne
      · rw [ob_pr hT k0 k1 a] at e; cases e
    by_cases hn : ¬ v.1 8 < 452000
    · unfold pw_added
      intro v e _ b0 b1
      subst e
      exact absurd b1 hn
    have hn := Decidable.not_not.mp hn
    refine wp_w_added (fun _ _ h => h) (s_added (show 0 ≤ v.1 8 by omega) hn hr.1 hr.2 (fun z => absurd z (by omega)) ?_)
    show Q (v.1 8) (uNat v y1)
    have hV := TI_nat hT hn hm x0 x1
    have hE : Ext v (uNat v y1) := ⟨⟨show v.1 8 ≤ v.1 8 + 1 by omega, show v.1 6 ≤ v.1 6 + 1 by omega, Int.le_refl _⟩, fun k k0 k1 => by
      unfold uNat
      rw [uAdd_0, uAdd_1, uAdd_4]
      exact ⟨if_neg (by show ¬ k = v.1 8; omega), if_neg (by show ¬ k = v.1 8; omega), if_neg (by show ¬ k = v.1 8; omega)⟩, fun i i0 i1 => if_neg (by omega), fun _ _ _ => rfl, fun _ _ _ => rfl⟩
    have hS : Szs v (uNat v y1) := ⟨fun k k0 k1 => by
      unfold uNat
      rw [uAdd_3]
      exact if_neg (by show ¬ k = v.1 8; omega), fun k k0 k1 => by
      have k1 : k < v.1 8 + 1 := k1
      unfold uNat
      rw [uAdd_3]
      exact if_pos (by show k = v.1 8; omega)⟩
    have hF : Fx fT v (uNat v y1) := fun j hj => by
      have hj2 : ¬ j ≤ 11 := by simpa [fT] using hj
      have a := Fx_add (u := iI (iL v (v.1 6) y1) 6 (v.1 6 + 1)) (l := -1) (r := v.1 6) (h := slotF (wl2i y1) (wl2i (wlshr y1 32))) (x := 0) j hj
      exact ⟨a.1.trans (if_neg (by omega)), a.2⟩
    have e0 : (uNat v y1).2.1 0 (v.1 8) = -1 := by unfold uNat; rw [uAdd_0]; exact if_pos rfl
    have e1 : (uNat v y1).2.1 1 (v.1 8) = v.1 6 := by unfold uNat; rw [uAdd_1]; exact if_pos rfl
    have eb : ob (uNat v y1) (v.1 8) = .nat y1 := by
      rw [ob_nat e0, e1]
      exact congrArg Ob.nat (if_pos rfl)
    refine hq _ _ ⟨hV, TU_new hT hU hV hE hS rfl ?_ ?_ (fun z => by omega), hE, hS, hF⟩ (by omega) (show v.1 8 < v.1 8 + 1 by omega) eb
    · rw [eb]
      unfold uNat
      rw [uAdd_4]
      exact if_pos rfl
    · intro k k0 k1 e
      rw [eb] at e
      exact hnew k k0 k1 e
  · have nx := hT.node (k := x4) (by omega) q2
    have goon : (v.2.1 0 x4 = -1 → v.2.2 (v.2.1 1 x4) ≠ y1) → ∀ Q', pw_natural_50 (fun y1' x3 x4 v' => v' = v ∧ y1' = y1 ∧ x3 = slotN y1 ∧ -1 ≤ x4 ∧ x4 < v.1 8 ∧ (x4 = -1 ∨ slotv v x4 = slotN y1) ∧ ∀ j, 0 ≤ j → j < v.1 8 → slotv v j = slotN y1 → x4 < j → v.2.1 0 j = -1 → v.2.2 (v.2.1 1 j) ≠ y1) Q' y1 (slotN y1) x4 v := by
      intro hx Q'
      unfold pw_natural_50
      intro _ _ y e _
      subst e
      refine ⟨rfl, rfl, rfl, nx.2.2.2.1, by have := nx.2.2.2.2.1; omega, ?_, ?_⟩
      · rcases nx.2.2.2.2.2.1 with h | h
        · exact Or.inl h
        · exact Or.inr (by rw [h]; omega)
      · intro j j0 j1 hj hx4 hl
        by_cases e : j = x4
        · subst e; exact hx hl
        · refine q4 j j0 j1 hj ?_ hl
          rcases Int.lt_or_le x4 j with z | z
          · exact z
          · have := nx.2.2.2.2.2.2 j j0 (by omega) (by omega)
            omega
    intro _ _ y e _
    subst e
    refine ⟨fun hd => goon (fun z => absurd z hd) _, fun hd => ?_⟩
    have hd : v.2.1 0 x4 = -1 := by omega
    unfold pw_value
    intro _ _ y e _ _ _ z e' _
    subst e e'
    exact ⟨fun he => goon (fun _ => he) _, fun he => hq x4 v (GR.rf hT hU) (by omega) q2 (by rw [ob_nat hd]; exact congrArg Ob.nat (by omega))⟩
