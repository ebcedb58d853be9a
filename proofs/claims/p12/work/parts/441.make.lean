-- deps: 440
/-! the reference, partial: objects are made -/
theorem p_slot [DecidableEq Ob] {a b : Int} {Q : Int → iST → Prop} {u : iST} (h : Q (slotF a b) u) : pw_slot a b Q u := wp_w_slot (fun _ _ h => h) (s_slot h)
theorem p_added [DecidableEq Ob] {l r h : Int} {Q : Int → iST → Prop} {u : iST} (hT : TI u) (h0 : 0 ≤ h) (h1 : h < 8192) (hl : 0 ≤ l → l < u.1 8 ∧ 0 ≤ r ∧ r < u.1 8) (hq : u.1 8 < 452000 → Q (u.1 8) (uAdd u l r h (hgt u l r))) : pw_added l r h Q u := by
  have h8 := hT.1
  by_cases c : u.1 8 < 452000
  · refine wp_w_added (fun _ _ h => h) (s_added (by omega) c h0 h1 (fun z => ?_) (hq c))
    obtain ⟨a, b, d⟩ := hl z
    have x := hT.node z a
    have y := hT.node b d
    have := x.2.1; have := x.2.2.1; have := y.2.1; have := y.2.2.1
    omega
  · unfold pw_added
    intro v e _ b0 b1
    omega
/-- what the making of objects leaves -/
def GR [DecidableEq Ob] (u v : iST) : Prop := TI v ∧ TU v ∧ Ext u v ∧ Szs u v ∧ Fx fT u v
theorem GR.rf [DecidableEq Ob] {u : iST} (hT : TI u) (hU : TU u) : GR u u := ⟨hT, hU, Ext.rf u, Szs.rf u, Fx.rf _ u⟩
theorem GR.tr [DecidableEq Ob] {u v w : iST} (hT : TI u) (h : GR u v) (g : GR v w) : GR u w := by
  have h8 := hT.1
  exact ⟨g.1, g.2.1, h.2.2.1.tr g.2.2.1, h.2.2.2.1.tr g.2.2.2.1 (by omega) h.2.2.1.1.1 g.2.2.1.1.1, h.2.2.2.2.tr g.2.2.2.2⟩
theorem GR.ob [DecidableEq Ob] {u v : iST} (h : GR u v) (hT : TI u) {k : Int} (k0 : 0 ≤ k) (k1 : k < u.1 8) : ob v k = ob u k := h.2.2.1.ob hT h.1 k0 k1
theorem GR.le [DecidableEq Ob] {u v : iST} (h : GR u v) : u.1 8 ≤ v.1 8 := h.2.2.1.1.1
/-- a new object: what must be seen of it -/
theorem TU_new [DecidableEq Ob] {u v : iST} (hT : TI u) (hU : TU u) (hV : TI v) (hE : Ext u v) (hS : Szs u v) (e8 : v.1 8 = u.1 8 + 1)
    (hh : v.2.1 4 (u.1 8) = (ob v (u.1 8)).hgt) (hn : ∀ k, 0 ≤ k → k < u.1 8 → ob u k ≠ ob v (u.1 8)) (hw : v.2.1 0 (u.1 8) = -2 → Ob.okw (lts v (v.2.1 1 (u.1 8)))) : TU v := by
  have h8 := hT.1
  have eo : ∀ k, 0 ≤ k → k < u.1 8 → ob v k = ob u k := fun k k0 k1 => hE.ob hT hV k0 k1
  have inj : ∀ j k, 0 ≤ j → j < v.1 8 → 0 ≤ k → k < v.1 8 → ob v j = ob v k → j = k := by
    intro j k j0 j1 k0 k1 e
    by_cases a : j = u.1 8 <;> by_cases b : k = u.1 8
    · omega
    · subst a; exact absurd ((eo k k0 (by omega)).symm.trans e.symm) (hn k k0 (by omega))
    · subst b; exact absurd ((eo j j0 (by omega)).symm.trans e) (hn j j0 (by omega))
    · rw [eo j j0 (by omega), eo k k0 (by omega)] at e
      exact (hT.inj hU j0 (by omega) k0 (by omega)).mp e
  refine ⟨fun j k j0 j1 k0 k1 a b e => inj j k j0 j1 k0 k1 (by rw [ob_nat a, ob_nat b, e]), fun j k j0 j1 k0 k1 a b e => inj j k j0 j1 k0 k1 (by rw [ob_sym a, ob_sym b, e]), fun k k0 k1 => ?_, fun i hi => ?_, fun k k0 k1 hk => ?_⟩
  · by_cases c : k = u.1 8
    · subst c; exact ⟨hh, Or.inl (hS.2 _ (Int.le_refl _) k1)⟩
    · have a := hU.2.2.1 k k0 (by omega)
      rw [eo k k0 (by omega), (hE.2.1 k k0 (by omega)).2.2, hS.1 k k0 (by omega)]
      exact a
  · rw [eo _ (by omega) (by omega)]; exact hU.2.2.2.1 i hi
  · by_cases c : k = u.1 8
    · subst c; exact hw hk
    · have e := hE.2.1 k k0 (by omega)
      rw [e.1] at hk
      have hs := hT.sym k0 (by omega) hk
      rw [e.2.1, lts_ext hE hs.1 hs.2.1 hs.2.2.2.2]
      exact hU.2.2.2.2 k k0 (by omega) hk
theorem p_pair [DecidableEq Ob] {l r : Int} {Q : Int → iST → Prop} {u : iST} (hT : TI u) (hU : TU u) (l0 : 0 ≤ l) (l1 : l < u.1 8) (r0 : 0 ≤ r) (r1 : r < u.1 8)
    (hq : ∀ k v, GR u v → 0 ≤ k → k < v.1 8 → ob v k = .pr (ob u l) (ob u r) → Q k v) : pw_pair l r Q u := by
  have h8 := hT.1
  have hr := slotF_r l r
  have hold : ∀ k, 0 ≤ k → k < u.1 8 → u.2.1 0 k = l → u.2.1 1 k = r → Q k u := fun k k0 k1 e1 e2 => hq k u (GR.rf hT hU) k0 k1 (by rw [ob_pr hT k0 k1 (by omega), e1, e2])
  unfold pw_pair
  refine p_slot ?_
  intro _ _ x4 ex _
  have hh := hT.head hr.1 hr.2
  unfold HeadOk at hh
  rw [← ex] at hh
  refine pw_pair_14_i (fun x1 x2 x3 x4 v => v = u ∧ x1 = l ∧ x2 = r ∧ x3 = slotF l r ∧ -1 ≤ x4 ∧ x4 < u.1 8 ∧ (x4 = -1 ∨ slotv u x4 = slotF l r) ∧ ∀ j, 0 ≤ j → j < u.1 8 → slotv u j = slotF l r → x4 < j → u.2.1 0 j = l → u.2.1 1 j ≠ r) ?_ ⟨rfl, rfl, rfl, rfl, hh.1, hh.2.1, hh.2.2.1, fun j j0 j1 hj hx => absurd (hh.2.2.2 j j0 j1 hj) (by omega)⟩
  intro x1 x2 x3 x4 v hI
  obtain ⟨rfl, rfl, rfl, rfl, q1, q2, q3, q4⟩ := hI
  unfold pw_pair_14b
  refine ⟨fun hc => ?_, fun hc => ?_⟩
  · refine p_added hT hr.1 hr.2 (fun _ => ⟨l1, r0, r1⟩) (fun hn => ?_)
    have hno : ∀ j, 0 ≤ j → j < v.1 8 → v.2.1 0 j = x1 → v.2.1 1 j ≠ x2 := by
      intro j j0 j1 hj hj2
      refine q4 j j0 j1 ?_ (by omega) hj hj2
      unfold slotv
      rw [hj, hj2, if_neg (by omega), if_neg (by omega)]
    have hV := TI_pair hT hn l0 l1 r0 r1 hno
    have hE : Ext v (uAdd v x1 x2 (slotF x1 x2) (hgt v x1 x2)) := Ext_add
    have e0 : (uAdd v x1 x2 (slotF x1 x2) (hgt v x1 x2)).2.1 0 (v.1 8) = x1 := by rw [uAdd_0, if_pos rfl]
    have e1 : (uAdd v x1 x2 (slotF x1 x2) (hgt v x1 x2)).2.1 1 (v.1 8) = x2 := by rw [uAdd_1, if_pos rfl]
    have e8 : (uAdd v x1 x2 (slotF x1 x2) (hgt v x1 x2)).1 8 = v.1 8 + 1 := rfl
    have eb : ob (uAdd v x1 x2 (slotF x1 x2) (hgt v x1 x2)) (v.1 8) = .pr (ob v x1) (ob v x2) := by
      rw [ob_pr hV (by omega) (by omega) (by omega), e0, e1, hE.ob hT hV l0 l1, hE.ob hT hV r0 r1]
    refine hq _ _ ⟨hV, TU_new hT hU hV hE Szs_add e8 ?_ ?_ (fun z => by omega), hE, Szs_add, Fx_add⟩ (by omega) (by omega) eb
    · rw [eb, uAdd_4, if_pos rfl]
      unfold hgt
      rw [if_pos l0, (hU.2.2.1 x1 l0 l1).1, (hU.2.2.1 x2 r0 r1).1]
      show _ = 1 + (if (ob v x2).hgt < (ob v x1).hgt then (ob v x1).hgt else (ob v x2).hgt)
      split <;> split <;> omega
    · intro k k0 k1 e
      rw [eb] at e
      rcases hT.cases k0 k1 with a | a | a
      · rw [ob_nat a] at e; cases e
      · rw [ob_sym a] at e; cases e
      · have hp := hT.pair k0 k1 a
        rw [ob_pr hT k0 k1 a] at e
        have e' := Ob.pr.inj e
        exact hno k k0 k1 ((hT.inj hU a (by omega) l0 l1).mp e'.1) ((hT.inj hU hp.2.1 (by omega) r0 r1).mp e'.2)
  · have nx := hT.node (k := x4) (by omega) q2
    have goon : (v.2.1 0 x4 = x1 → v.2.1 1 x4 ≠ x2) → ∀ Q', pw_pair_45 (fun x1' x2' x3 x4 v' => v' = v ∧ x1' = x1 ∧ x2' = x2 ∧ x3 = slotF x1 x2 ∧ -1 ≤ x4 ∧ x4 < v.1 8 ∧ (x4 = -1 ∨ slotv v x4 = slotF x1 x2) ∧ ∀ j, 0 ≤ j → j < v.1 8 → slotv v j = slotF x1 x2 → x4 < j → v.2.1 0 j = x1 → v.2.1 1 j ≠ x2) Q' x1 x2 (slotF x1 x2) x4 v := by
      intro hx Q'
      unfold pw_pair_45
      intro _ _ y e _
      subst e
      refine ⟨rfl, rfl, rfl, rfl, nx.2.2.2.1, by have := nx.2.2.2.2.1; omega, ?_, ?_⟩
      · rcases nx.2.2.2.2.2.1 with h | h
        · exact Or.inl h
        · exact Or.inr (by rw [h]; omega)
      · intro j j0 j1 hj hx4 hl
        by_cases e : j = x4
        · subst e; exact hx hl
        · refine q4 j j0 j1 hj ?_ hl
          rcases Int.lt_or_le x4 j with z | z
          · exact z
          · have := nx.2.2.2.2.2.2 j j0 (by omega) (by omega)
            omega
    intro _ _ y e _
    subst e
    refine ⟨fun hd => goon (fun z => absurd z hd) _, fun hd => ?_⟩
    intro _ _ y e _
    subst e
    exact ⟨fun he => goon (fun _ => he) _, fun he => hold x4 (by omega) q2 (by omega) (by omega)⟩
