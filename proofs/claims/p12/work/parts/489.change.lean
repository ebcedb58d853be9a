-- deps: 488
def f7Q (k : Nat) : Bool := decide (114 ≤ k ∧ k ≤ 115)
/-- only this clause has changed -/
def CK [DecidableEq Ob] (id : Int) (u v : iST) : Prop := GZ f7Q u v ∧ v.1 = u.1 ∧ (∀ i, i ≠ id → v.2.1 115 i = u.2.1 115 i) ∧ (∀ q, q ≠ 114 → q ≠ 115 → v.2.1 q = u.2.1 q) ∧ ∀ i, i < 30 * id ∨ 30 * id + 30 ≤ i → v.2.1 114 i = u.2.1 114 i
theorem CK.rf [DecidableEq Ob] {u : iST} (hT : TI u) (hU : TU u) (id : Int) : CK id u u := ⟨GZ.rf hT hU, rfl, fun _ _ => rfl, fun _ _ _ => rfl, fun _ _ => rfl⟩
theorem CK.tr [DecidableEq Ob] {id : Int} {u v w : iST} (h : CK id u v) (g : CK id v w) : CK id u w :=
  ⟨h.1.tr g.1, g.2.1.trans h.2.1, fun i hi => (g.2.2.1 i hi).trans (h.2.2.1 i hi), fun q a b => (g.2.2.2.1 q a b).trans (h.2.2.2.1 q a b), fun i hi => (g.2.2.2.2 i hi).trans (h.2.2.2.2 i hi)⟩
theorem CK_A [DecidableEq Ob] {id : Int} {u : iST} (hT : TI u) (hU : TU u) {i x : Int} (h0 : 30 * id ≤ i) (h1 : i < 30 * id + 30) : CK id u (iA u 114 i x) :=
  ⟨GZ_eq (GZ.rf hT hU) (fun k hk => ⟨rfl, if_neg (by omega)⟩) rfl (Fx_A (by decide)), rfl, fun _ _ => rfl, fun q a _ => if_neg a, fun j hj => by rw [iA_row, if_neg (by omega)]⟩
theorem p_removeAt [DecidableEq Ob] {id i : Int} {Q : iST → Prop} {u : iST} {E : Sp.Env} (hT : TI u) (hU : TU u) (hC : ClOk u E id) (i0 : 0 ≤ i) (i1 : i < u.2.1 115 id)
    (hq : ∀ v, CK id u v → ClOk v E id → v.2.1 115 id = u.2.1 115 id - 1 → lits v id = (lits u id).take i.toNat ++ (lits u id).drop (i.toNat + 1) → (∀ j, j < i → v.2.1 114 (30 * id + j) = u.2.1 114 (30 * id + j)) → (∀ j, i ≤ j → j < u.2.1 115 id - 1 → v.2.1 114 (30 * id + j) = u.2.1 114 (30 * id + j + 1)) → Q v) : pw_removeAt id i Q u := by
  obtain ⟨c0, c1, c2, c3⟩ := hC
  unfold pw_removeAt
  intro _ _ x ex _ _ _ _ w ew _ _
  subst ex
  have kw : CK id u w := by
    rw [ew]
    exact ⟨GZ_eq (GZ.rf hT hU) (fun k hk => ⟨rfl, if_neg (by omega)⟩) rfl (Fx_A (by decide)), rfl, fun j hj => by rw [iA_row, if_neg (fun z => hj z.2)], fun q _ b => if_neg b, fun _ _ => rfl⟩
  have w115 : w.2.1 115 id = u.2.1 115 id - 1 := by rw [ew]; exact if_pos rfl
  have w114 : w.2.1 114 = u.2.1 114 := by rw [ew]; rfl
  clear ew
  refine pw_removeAt_17_i (fun x1 x3 v => x1 = id ∧ CK id u v ∧ v.2.1 115 id = u.2.1 115 id - 1 ∧ ∃ n, x3 = 30 * id + n ∧ i ≤ n ∧ n ≤ u.2.1 115 id - 1 ∧ (∀ j, j < i → v.2.1 114 (30 * id + j) = u.2.1 114 (30 * id + j)) ∧ (∀ j, i ≤ j → j < n → v.2.1 114 (30 * id + j) = u.2.1 114 (30 * id + j + 1)) ∧ ∀ j, n ≤ j → v.2.1 114 (30 * id + j) = u.2.1 114 (30 * id + j)) ?_ ⟨rfl, kw, w115, i, rfl, Int.le_refl _, by omega, fun j _ => by rw [w114], fun j a b => by omega, fun j _ => by rw [w114]⟩
  intro x1 x3 v hI
  obtain ⟨e1, kv, v115, n, e3, n0, n1, va, vb, vc⟩ := hI
  rw [e1, e3]
  unfold pw_removeAt_17b
  intro _ _ _ y ey _ _
  rw [v115] at ey
  rw [ey]
  refine ⟨fun hc => ?_, fun hc => ?_⟩
  · have en : n = u.2.1 115 id - 1 := by omega
    subst en
    refine hq v kv ⟨by omega, by omega, by rw [kv.2.2.2.1 116 (by decide) (by decide)]; exact c2, fun j j0 j1 => ?_⟩ v115 ?_ va vb
    · by_cases c : j < i
      · rw [va j c]; exact ((c3 j j0 (by omega)).mono hT kv.1).1
      · rw [vb j (by omega) (by omega), show 30 * id + j + 1 = 30 * id + (j + 1) by omega]
        exact ((c3 (j + 1) (by omega) (by omega)).mono hT kv.1).1
    · have hlu : (lits u id).length = (u.2.1 115 id).toNat := ls_len _ _ _ _
      refine List.ext_getElem? (fun j => ?_)
      rcases Nat.lt_or_ge j ((u.2.1 115 id).toNat - 1) with hj | hj
      · have g1 : (lits v id)[j]? = some (ob v (v.2.1 114 (30 * id + (j : Int)))) := ls_get _ _ _ _ (by omega)
        rw [g1]
        by_cases c : j < i.toNat
        · rw [List.getElem?_append_left (by rw [List.length_take]; omega), List.getElem?_take_of_lt c]
          have g2 : (lits u id)[j]? = some (ob u (u.2.1 114 (30 * id + (j : Int)))) := ls_get _ _ _ _ (by omega)
          rw [g2, va _ (by omega)]
          exact congrArg some ((c3 _ (by omega) (by omega)).mono hT kv.1).2
        · rw [List.getElem?_append_right (by rw [List.length_take]; omega), List.getElem?_drop, List.length_take]
          have g2 : (lits u id)[i.toNat + 1 + (j - min i.toNat (lits u id).length)]? = some (ob u (u.2.1 114 (30 * id + ((j + 1 : Nat) : Int)))) := by
            rw [show i.toNat + 1 + (j - min i.toNat (lits u id).length) = j + 1 by omega]
            exact ls_get _ _ _ _ (by omega)
          rw [g2, vb _ (by omega) (by omega), show 30 * id + (j : Int) + 1 = 30 * id + ((j + 1 : Nat) : Int) by omega]
          exact congrArg some ((c3 _ (by omega) (by omega)).mono hT kv.1).2
      · rw [List.getElem?_eq_none (by rw [show (lits v id).length = (v.2.1 115 id).toNat from ls_len _ _ _ _]; omega), List.getElem?_eq_none (by rw [List.length_append, List.length_take, List.length_drop]; omega)]
  · intro _ _ _ z ez _ _ _ t et _
    have kt : CK id v t := by rw [et]; exact CK_A kv.1.1 kv.1.2.1 (by omega) (by omega)
    have tr : ∀ a, t.2.1 114 a = if a = 30 * id + n then z else v.2.1 114 a := fun a => by
      rw [et, iA_row]
      by_cases c : a = 30 * id + n
      · rw [if_pos ⟨rfl, c⟩, if_pos c]
      · rw [if_neg (fun y => c y.2), if_neg c]
    have t115 : t.2.1 115 = v.2.1 115 := by rw [et]; rfl
    clear et
    refine ⟨rfl, kv.tr kt, by rw [t115]; exact v115, n + 1, by omega, by omega, by omega, fun j hj => by rw [tr, if_neg (by omega)]; exact va j hj, fun j a b => ?_, fun j hj => by rw [tr, if_neg (by omega)]; exact vc j (by omega)⟩
    rw [tr]
    by_cases c : j = n
    · rw [if_pos (by omega), ez, c, show 30 * id + n + 1 = 30 * id + (n + 1) by omega, vc (n + 1) (by omega)]
    · rw [if_neg (by omega)]; exact vb j a (by omega)
theorem p_splits [DecidableEq Ob] {a : Int} {Q : Int → iST → Prop} {u : iST} {E : Sp.Env} (hT : TI u) (hU : TU u) (na : Nd u E a) (h : ∀ r, bq r (Sp.splits (ob u a)) → Q r u) : pw_splits a Q u := by
  unfold pw_splits
  refine p_callK hT hU na.1 na.2.1 3 (by decide) (by decide) rfl (fun r1 h1 => ⟨fun hz _ => h 1 (bq1 (by unfold Sp.splits; rw [h1.t hz]; rfl)), fun hz => ?_⟩)
  have h1' := h1.f (Decidable.not_not.mp hz)
  refine p_callK hT hU na.1 na.2.1 15 (by decide) (by decide) rfl (fun r2 h2 => ⟨fun hy _ => h 0 (bq0 (by unfold Sp.splits; rw [h1', h2.f hy]; rfl)), fun hy => ?_⟩)
  have hn := h2.t hy
  obtain ⟨x, ex, wx⟩ := Ob.wt_one na.2.2.2 hn not_q (arOf_not E)
  obtain ⟨_, _, q0, q1, _, _, ep⟩ := ob_lft hT na.1 na.2.1 (by rw [ex]; rfl)
  have n21 := na.2.1
  have er : ob u (u.2.1 1 a) = .pr x Ob.nil := by rw [ex] at ep; exact (Ob.pr.inj ep).2.symm
  obtain ⟨m0, m1, _, _, _, _, ep2⟩ := ob_lft hT q0 (by omega) (by rw [er]; rfl)
  have em : ob u (u.2.1 0 (u.2.1 1 a)) = x := by rw [er] at ep2; exact (Ob.pr.inj ep2).1.symm
  have ei : Ob.item (ob u a) 1 = x := by rw [ex]; rfl
  intro _ _ y ey _ _ _ z ez _
  subst ey
  rw [ez]
  refine p_callK hT hU m0 (by omega) 3 (by decide) (by decide) rfl (fun r3 h3 => ?_)
  rw [em] at h3
  exact ⟨fun hw _ => h 0 (bq0 (by unfold Sp.splits; rw [h1', hn, ei, h3.f hw]; rfl)), fun hw _ => h 1 (bq1 (by unfold Sp.splits; rw [h1', hn, ei, h3.t hw]; rfl))⟩
theorem p_together [DecidableEq Ob] {id : Int} {Q : Int → iST → Prop} {u : iST} {E : Sp.Env} (hT : TI u) (hU : TU u) (hC : ClOk u E id) (h : Q (capS7 (lits u id)) u) : pw_together id Q u := by
  obtain ⟨c0, c1, c2, c3⟩ := hC
  have hlen : (lits u id).length = (u.2.1 115 id).toNat := ls_len _ _ _ _
  unfold pw_together
  refine pw_together_4_i (fun x1 x2 x3 v => v = u ∧ x1 = id ∧ ∃ i : Nat, x3 = (i : Int) ∧ x2 = capS7 ((lits u id).take i)) ?_ ⟨rfl, rfl, 0, rfl, rfl⟩
  intro x1 x2 x3 v hI
  obtain ⟨e1, e2, i, e3, e4⟩ := hI
  rw [e1, e2, e3, e4]
  unfold pw_together_4b
  intro _ _ x ex _
  subst ex
  refine ⟨fun hc => ?_, fun hc => ?_⟩
  · rw [List.take_of_length_le (by omega)]; exact h
  · have nd := c3 (i : Int) (by omega) (by omega)
    intro _ _ _ _ y ey _
    subst ey
    refine p_sizeOf hT hU nd.1 nd.2.1 nd.2.2.1 (fun _ _ => ⟨rfl, rfl, i + 1, by omega, ?_⟩)
    have hg : (lits u id)[i]? = some (ob u (u.2.1 114 (30 * id + (i : Int)))) := ls_get _ _ _ _ (by omega)
    rw [List.take_add_one, hg, capS7_app]
    show _ = capS7 ((lits u id).take i) + (cap (ob u (u.2.1 114 (30 * id + (i : Int)))).sz + 0)
    omega
theorem p_isProved [DecidableEq Ob] {id : Int} {Q : Int → iST → Prop} {u : iST} {E : Sp.Env} (hT : TI u) (hU : TU u) (hC : ClOk u E id) (h : ∀ r, bq r (Sp.plainC (lits u id)) → Q r u) : pw_isProved id Q u := by
  obtain ⟨c0, c1, c2, c3⟩ := hC
  have mem : ∀ o, o ∈ lits u id ↔ ∃ i : Nat, i < (u.2.1 115 id).toNat ∧ ob u (u.2.1 114 (30 * id + (i : Int))) = o := fun o => ls_mem
  have yes : ∀ i : Nat, (i : Int) < u.2.1 115 id → ((Ob.isConst (ob u (u.2.1 114 (30 * id + (i : Int)))) && decide (ob u (u.2.1 114 (30 * id + (i : Int))) ≠ Ob.nil)) || (lits u id).any (fun y => Ob.isCallOf y Ob.not && decide (Ob.item y 1 = ob u (u.2.1 114 (30 * id + (i : Int)))))) = true → bz 1 → Q 1 u := fun i hi hz _ => h 1 (bq1 (List.any_eq_true.mpr ⟨_, (mem _).mpr ⟨i, by omega, rfl⟩, hz⟩))
  unfold pw_isProved
  intro _
  refine pw_isProved_5_i (fun x1 x2 v => v = u ∧ x1 = id ∧ ∃ i : Nat, x2 = 30 * id + (i : Int) ∧ ∀ j : Nat, j < i → (j : Int) < u.2.1 115 id → ((Ob.isConst (ob u (u.2.1 114 (30 * id + (j : Int)))) && decide (ob u (u.2.1 114 (30 * id + (j : Int))) ≠ Ob.nil)) || (lits u id).any (fun y => Ob.isCallOf y Ob.not && decide (Ob.item y 1 = ob u (u.2.1 114 (30 * id + (j : Int)))))) = false) ?_ ⟨rfl, rfl, 0, by omega, fun j hj => by omega⟩
  intro x1 x2 v hI
  obtain ⟨e1, e2, i, e3, hi⟩ := hI
  rw [e1, e2, e3]
  unfold pw_isProved_5b
  intro _ _ _ x ex _ _
  subst ex
  refine ⟨fun hc _ => h 0 (bq0 ?_), fun hc => ?_⟩
  · cases e : Sp.plainC (lits u id) with
    | false => rfl
    | true =>
      obtain ⟨o, ho, hz⟩ := List.any_eq_true.mp e
      obtain ⟨j, j1, j2⟩ := (mem o).mp ho
      rw [← j2, hi j (by omega) (by omega)] at hz
      cases hz
  · have nd := c3 (i : Int) (by omega) (by omega)
    have z0 := kat hT hU 0 (by decide) (by decide) rfl nd.1 nd.2.1
    intro _ _ y ey _
    subst ey
    have go : (Ob.isConst (ob u (u.2.1 114 (30 * id + (i : Int)))) && decide (ob u (u.2.1 114 (30 * id + (i : Int))) ≠ Ob.nil)) = false → pw_isProved_41 (fun x1 x2 v => v = u ∧ x1 = id ∧ ∃ i : Nat, x2 = 30 * id + (i : Int) ∧ ∀ j : Nat, j < i → (j : Int) < u.2.1 115 id → ((Ob.isConst (ob u (u.2.1 114 (30 * id + (j : Int)))) && decide (ob u (u.2.1 114 (30 * id + (j : Int))) ≠ Ob.nil)) || (lits u id).any (fun y => Ob.isCallOf y Ob.not && decide (Ob.item y 1 = ob u (u.2.1 114 (30 * id + (j : Int)))))) = false) Q id (30 * id + (i : Int)) (u.2.1 114 (30 * id + (i : Int))) u := by
      intro hcst
      unfold pw_isProved_41
      intro _
      refine pw_isProved_47_i (fun x1 x2 x3 x4 v => v = u ∧ x1 = id ∧ x2 = 30 * id + (i : Int) ∧ x3 = u.2.1 114 (30 * id + (i : Int)) ∧ ∃ k : Nat, x4 = 30 * id + (k : Int) ∧ ∀ j : Nat, j < k → (j : Int) < u.2.1 115 id → isDen (ob u (u.2.1 114 (30 * id + (i : Int)))) (ob u (u.2.1 114 (30 * id + (j : Int)))) = false) ?_ ⟨rfl, rfl, rfl, rfl, 0, by omega, fun j hj => by omega⟩
      intro x1 x2 x3 x4 v hJ
      obtain ⟨f1, f2, f3, f4, k, f5, hk⟩ := hJ
      rw [f1, f2, f3, f4, f5]
      unfold pw_isProved_47b
      intro _ _ _ x ex _ _
      subst ex
      refine ⟨fun hd _ => ⟨rfl, rfl, i + 1, by omega, fun j j1 j2 => ?_⟩, fun hd => ?_⟩
      · by_cases c : j = i
        · subst c
          rw [hcst, Bool.false_or]
          cases e : (lits u id).any (fun y => Ob.isCallOf y Ob.not && decide (Ob.item y 1 = ob u (u.2.1 114 (30 * id + (j : Int))))) with
          | false => rfl
          | true =>
            obtain ⟨o, ho, hz⟩ := List.any_eq_true.mp e
            obtain ⟨q, q1, q2⟩ := (mem o).mp ho
            have := hk q (by omega) (by omega)
            unfold isDen at this
            rw [q2, hz] at this
            cases this
        · exact hi j (by omega) j2
      · have nk := c3 (k : Int) (by omega) (by omega)
        have nk21 := nk.2.1
        intro _ _ y ey _
        subst ey
        have goon : isDen (ob u (u.2.1 114 (30 * id + (i : Int)))) (ob u (u.2.1 114 (30 * id + (k : Int)))) = false → u = u ∧ id = id ∧ 30 * id + (i : Int) = 30 * id + (i : Int) ∧ u.2.1 114 (30 * id + (i : Int)) = u.2.1 114 (30 * id + (i : Int)) ∧ ∃ k' : Nat, 30 * id + (k : Int) + 1 = 30 * id + (k' : Int) ∧ ∀ j : Nat, j < k' → (j : Int) < u.2.1 115 id → isDen (ob u (u.2.1 114 (30 * id + (i : Int)))) (ob u (u.2.1 114 (30 * id + (j : Int)))) = false := by
          intro hz
          refine ⟨rfl, rfl, rfl, rfl, k + 1, by omega, fun j j1 j2 => ?_⟩
          by_cases c : j = k
          · rw [c]; exact hz
          · exact hk j (by omega) j2
        refine p_callK hT hU nk.1 nk.2.1 15 (by decide) (by decide) rfl (fun r hr => ⟨fun he _ => goon (by unfold isDen; rw [hr.f he]; rfl), fun he => ?_⟩)
        have hn := hr.t he
        obtain ⟨t, et, _⟩ := Ob.wt_one nk.2.2.2 hn not_q (arOf_not E)
        obtain ⟨_, _, q0, q1, _, _, ep⟩ := ob_lft hT nk.1 nk.2.1 (by rw [et]; rfl)
        have er : ob u (u.2.1 1 (u.2.1 114 (30 * id + (k : Int)))) = .pr t Ob.nil := by rw [et] at ep; exact (Ob.pr.inj ep).2.symm
        obtain ⟨m0, m1, _, _, _, _, ep2⟩ := ob_lft hT q0 (by omega) (by rw [er]; rfl)
        have em : ob u (u.2.1 0 (u.2.1 1 (u.2.1 114 (30 * id + (k : Int))))) = t := by rw [er] at ep2; exact (Ob.pr.inj ep2).1.symm
        have eit : Ob.item (ob u (u.2.1 114 (30 * id + (k : Int)))) 1 = t := by rw [et]; rfl
        have hinj := hT.inj hU m0 (by omega : u.2.1 0 (u.2.1 1 (u.2.1 114 (30 * id + (k : Int)))) < u.1 8) nd.1 nd.2.1
        rw [em] at hinj
        intro _ _ y1 ey1 _ _ _ y2 ey2 _ _ _ y3 ey3 _
        subst ey1 ey2 ey3
        refine ⟨fun hf _ => goon ?_, fun hf => yes i (by omega) ?_⟩
        · unfold isDen
          rw [hn, eit, decide_eq_false (fun z => hf (hinj.mp z))]; rfl
        · rw [Bool.or_eq_true]
          refine Or.inr (List.any_eq_true.mpr ⟨_, (mem _).mpr ⟨k, by omega, rfl⟩, ?_⟩)
          rw [hn, eit, decide_eq_true (hinj.mpr (Decidable.not_not.mp hf))]; rfl
    refine p_isConstant hT hU nd.1 nd.2.1 nd.2.2.1 (fun r hr => ⟨fun hz => go (by rw [hr.f hz]; rfl), fun hz => ⟨fun hy => go (by rw [decide_eq_false (not_not_intro (z0.mp hy))]; simp), fun hy => yes i (by omega) ?_⟩⟩)
    rw [hr.t hz, decide_eq_true (show ob u (u.2.1 114 (30 * id + (i : Int))) ≠ Ob.nil from fun z => hy (z0.mpr z))]
    rfl
