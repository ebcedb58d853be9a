/-! the class: terms are rebuilt -/
/-- what is bound is valid -/
def BV (u : iST) : Prop := 0 ≤ u.1 39 ∧ u.1 39 ≤ 256 ∧ ∀ k, 0 ≤ k → k < u.1 39 → u.2.1 36 k < u.1 29
theorem BV.keep {u v : iST} (h : BV u) (h1 : v.1 39 = u.1 39) (h2 : v.2.1 36 = u.2.1 36) (h3 : u.1 29 ≤ v.1 29) : BV v := ⟨by rw [h1]; exact h.1, by rw [h1]; exact h.2.1, fun k k0 k1 => by rw [h2]; rw [h1] at k1; have := h.2.2 k k0 k1; omega⟩
theorem j_standsFor {u : iST} {x : Int} {Q : Int → iST → Prop} (h0 : 0 ≤ u.1 39) (h1 : u.1 39 ≤ 256) (hq : ∀ r, (r = -1 ∨ ∃ k, 0 ≤ k ∧ k < u.1 39 ∧ r = u.2.1 36 k) → Q r u) : v_10_standsFor x Q u := by
  unfold v_10_standsFor v_10_standsFor_2
  refine lf2 (B := fun R y1 y2 u => v_10_standsFor_2b R Q y1 y2 u) (fun y1 y2 v => x = y1 ∧ 0 ≤ y2 ∧ u = v) (fun _ y2 _ => (256 - y2).toNat) ?_ ⟨rfl, Int.le_refl _, rfl⟩
  intro y1 y2 v hI R ih
  obtain ⟨rfl, h2, rfl⟩ := hI
  unfold v_10_standsFor_2b
  exact rd_i fun _ => br_i (fun _ => hq (-1) (Or.inl rfl)) fun hlt => bd_i h2 (by omega) (rd_i fun _ => br_i (fun _ => ov_i (by omega) (by omega) (ih _ _ _ ⟨rfl, by omega, rfl⟩ (by omega))) fun h => bd_i h2 (by omega) (rd_i fun _ => hq _ (Or.inr ⟨y2, h2, by omega, rfl⟩)))
theorem j_isTooBig10 {u : iST} {x w : Int} {Q : Int → iST → Prop} (hT : RT u) (hq : ∀ b v, bz b → RM u v → Q b v) : v_10_isTooBig x w Q u := by
  have k18 : ∀ y, bz y → v_10_isTooBig_18 Q w y u := fun y hy => by
    unfold v_10_isTooBig_18
    exact br_i (fun _ => ⟨hy, hq y u hy (RG.rf hT)⟩) fun _ => br_i (fun _ => ⟨hy, hq y u hy (RG.rf hT)⟩) fun _ => j_blame hT (by decide) fun v hv _ => ⟨hy, hq y v hy hv⟩
  unfold v_10_isTooBig
  exact j_sizeOf hT fun b _ _ => br_i (fun _ => k18 0 (Or.inl rfl)) fun _ => k18 1 (Or.inr rfl)
theorem j_meaningOf {u : iST} {x w : Int} {Q : Int → iST → Prop} (hT : RT u) (hx : x < u.1 29) (hw : w = 1 → BV u) (h39 : 0 ≤ u.1 39 ∧ u.1 39 ≤ 256) (h41 : w = 2 → u.1 41 < u.1 29) (hq : ∀ r, r < u.1 29 → Q r u) : v_10_meaningOf x w Q u := by
  have h44 := hT.1.1
  have k18 : v_10_meaningOf_18 Q x w u := by
    unfold v_10_meaningOf_18
    refine j_isCall hT (fun _ _ => br_n (by decide) (hq (-2) (by omega))) (fun _ => br_y rfl (br_i (fun _ => hq x hx) fun hw1 => j_isVariable hT fun b _ _ => br_i (fun _ => hq x hx) fun _ => j_standsFor h39.1 h39.2 fun r hr => br_i (fun hne => ?_) fun _ => hq x hx))
    obtain ⟨k, k0, k1, e⟩ := hr.resolve_left hne
    rw [e]
    exact hq _ ((hw (Classical.not_not.mp hw1)).2.2 k k0 k1)
  unfold v_10_meaningOf
  exact br_i (fun _ => k18) fun hw2 => rd_i fun _ => br_i (fun _ => k18) fun _ => rd_i fun _ => hq _ (h41 (Classical.not_not.mp hw2))
/-- what READ says of an object -/
theorem j_readMeaning {u : iST} {x : Int} {Q : Int → iST → Prop} (hT : RT u) (hB : BN u) (x0 : 0 ≤ x) (hx : x < u.1 29) (h37 : 16 < u.1 37 ∨ u.1 37 = -1) (h38 : -1 ≤ u.1 38 ∧ u.1 38 ≤ 6) (hq : ∀ r, r < u.1 29 → (r = -1 ∨ (r = -2 ∧ pr u x ∧ ∃ n : Nat, WA (eL u x) n ∧ LnP u n (eR u x)) ∨ (0 ≤ r ∧ WF u r)) → Q r u) : v_10_readMeaning x Q u := by
  have h44 := hT.1.1
  have none : Q (-1) u := hq (-1) (by omega) (Or.inl rfl)
  have k108 : ∀ y0 : Int, pr u x → (y0 = -1 ∨ ∃ n : Nat, y0 = n ∧ WA (eL u x) n) → v_10_readMeaning_108 Q x y0 u := by
    intro y0 hp hy
    unfold v_10_readMeaning_108
    refine br_i (fun _ => none) fun hne => j_right hT (j_lengthOf hT (br_i (fun _ => none) fun he => ?_) fun n hn hl => br_i (fun _ => none) fun he => ?_)
    · obtain ⟨n, e, _⟩ := hy.resolve_left hne
      have := Classical.not_not.mp he
      omega
    · obtain ⟨m, e, hm⟩ := hy.resolve_left hne
      have e2 : n = m := by have := Classical.not_not.mp he; omega
      subst e2
      exact hq (-2) (by omega) (Or.inr (Or.inl ⟨rfl, hp, n, hm, hl⟩))
  have k57 : ∀ v y0, eL u x = 2 → 0 ≤ v → v < u.1 29 → (y0 ≠ 0 → ¬ pr u v) → v_10_readMeaning_57 Q x v y0 u := by
    intro v y0 h2 v0 hv hy
    unfold v_10_readMeaning_57
    exact j_isQuoted hT fun b _ _ => br_i (fun _ => br_i (fun _ => hq x hx (Or.inr (Or.inr ⟨x0, WF.at hx (fun _ => h2)⟩))) fun hy0 => hq v hv (Or.inr (Or.inr ⟨v0, WF.at hv (fun z => absurd z (hy hy0))⟩))) fun _ => none
  unfold v_10_readMeaning
  refine j_isPair hT (fun hp => br_y (by decide) (j_left hT (br_i (fun h2 => rd_i fun _ => br_i (fun h3 => j_arityOf hB fun r hr => k108 r hp hr) fun h3 => rd_i fun _ => k108 _ hp ?_) fun h2 => ?_))) (fun hp => br_n (fun z => z rfl) (hq x hx (Or.inr (Or.inr ⟨x0, WF.at hx (fun z => absurd z hp)⟩))))
  · have e := Classical.not_not.mp h3
    have l0 := (eL_r hT x).1
    rcases (show u.1 38 = -1 ∨ 0 ≤ u.1 38 by omega) with z | z
    · exact Or.inl z
    · exact Or.inr ⟨(u.1 38).toNat, by omega, by omega, fun a b => by omega⟩
  · have h2 := Classical.not_not.mp h2
    have small : ∀ v, v ≤ 1 → ¬ pr u v := fun v hv hp => by have := (hT.2.1 v hp).2.2; omega
    refine j_valueOf hT hx fun v hv v0 => br_i (fun hle => ?_) fun _ => j_isNatural hT fun b hb hn => br_i (fun _ => k57 v 0 h2 (v0 x0) hv (fun z => absurd rfl z)) fun hb0 => ?_
    · unfold v_10_readMeaning_52
      exact k57 v 1 h2 (v0 x0) hv (fun _ => small v hle)
    · unfold v_10_readMeaning_52
      exact k57 v 1 h2 (v0 x0) hv (fun _ => hn hb0)
