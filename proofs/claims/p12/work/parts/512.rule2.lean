-- deps: 511
/-! the reference: hypotheses, ruleOf, addTheorem -/
def f7B (k : Nat) : Bool := decide (k = 48 ∨ k = 49 ∨ k = 112)
def HyOk [DecidableEq Ob] (v : iST) (E : Sp.Env) (r : Int) : Prop := 0 ≤ v.2.1 48 r ∧ ∀ i, 0 ≤ i → i < v.2.1 48 r → Nd v E (v.2.1 49 (120 * r + i))
def HyK [DecidableEq Ob] (r : Int) (u v : iST) : Prop := GZ f7B u v ∧ v.1 = u.1 ∧ (∀ j, j ≠ r → v.2.1 48 j = u.2.1 48 j) ∧ ∀ i, i < 120 * r → v.2.1 49 i = u.2.1 49 i
theorem HyK.tr [DecidableEq Ob] {r : Int} {u v w : iST} (h : HyK r u v) (g : HyK r v w) : HyK r u w := ⟨h.1.tr g.1, g.2.1.trans h.2.1, fun j hj => (g.2.2.1 j hj).trans (h.2.2.1 j hj), fun i hi => (g.2.2.2 i hi).trans (h.2.2.2 i hi)⟩
theorem HyK.rf [DecidableEq Ob] {r : Int} {u : iST} (hT : TI u) (hU : TU u) : HyK r u u := ⟨GZ.rf hT hU, rfl, fun _ _ => rfl, fun _ _ => rfl⟩
theorem hypL_ls [DecidableEq Ob] (u : iST) (r : Int) : hypL u r = ls u (u.2.1 49) (120 * r) (u.2.1 48 r).toNat := rfl
theorem p_hypotheses [DecidableEq Ob] {r h : Int} {Q : iST → Prop} {u : iST} {E : Sp.Env} (hT : TI u) (hU : TU u) (nh : Nd u E h) (hH : HyOk u E r) (hq : ∀ v, HyK r u v → HyOk v E r → hypL v r = hypL u r ++ Sp.hypIn (ob u h) → Q v) : pw_hypotheses r h Q u := by
  unfold pw_hypotheses
  intro _ _ w ew
  have gw : GZ f7B u w := by rw [ew]; exact GZ_eq (GZ.rf hT hU) (fun k hk => ⟨rfl, if_neg (by omega)⟩) rfl (Fx_A (by decide))
  have kw : HyK r u w := ⟨gw, by rw [ew]; rfl, fun j _ => by rw [ew]; rfl, fun i _ => by rw [ew]; rfl⟩
  have w112 : w.2.1 112 0 = h := by rw [ew]; rfl
  have w48 : w.2.1 48 = u.2.1 48 := by rw [ew]; rfl
  have w49 : w.2.1 49 = u.2.1 49 := by rw [ew]; rfl
  clear ew
  have hw : HyOk w E r := ⟨by rw [w48]; exact hH.1, fun i i0 i1 => by rw [w48] at i1; rw [w49]; exact ((hH.2 i i0 i1).mono hT gw).1⟩
  have lw : hypL w r = hypL u r := by
    rw [hypL_ls, hypL_ls, w48, w49]
    have := hH.1
    exact ls_congr (fun i hi => ((hH.2 _ (by omega) (by omega)).mono hT gw).2)
  obtain ⟨nhw, ehw⟩ := nh.mono hT gw
  refine pw_hypotheses_9_i (fun x1 x3 v => x1 = r ∧ 0 ≤ x3 ∧ HyK r u v ∧ HyOk v E r ∧ (∀ i, 0 ≤ i → i < x3 → Nd v E (v.2.1 112 i)) ∧ hypL v r ++ (rvl (fun i => ob v (v.2.1 112 i)) x3.toNat).flatMap Sp.hypIn = hypL u r ++ Sp.hypIn (ob u h)) ?_ ⟨rfl, by decide, kw, hw, fun i i0 i1 => by rw [show i = 0 by omega, w112]; exact nhw, by
    rw [lw]
    show hypL u r ++ (Sp.hypIn (ob w (w.2.1 112 0)) ++ []) = _
    rw [w112, ehw, List.append_nil]⟩
  intro x1 x3 v hI
  obtain ⟨e1, i0, kv, hv, hs, hl⟩ := hI
  rw [e1]
  have hTv := kv.1.1
  have hUv := kv.1.2.1
  unfold pw_hypotheses_9b
  refine ⟨fun hc => hq v kv hv ?_, fun hc => ?_⟩
  · rw [← hl, show x3.toNat = 0 by omega]
    show hypL v r = hypL v r ++ []
    rw [List.append_nil]
  intro _ _ _ y ey _
  obtain ⟨m, hm⟩ : ∃ m : Nat, x3 = (m : Int) + 1 := ⟨(x3 - 1).toNat, by omega⟩
  have hm1 : x3 + -1 = (m : Int) := by omega
  rw [hm1] at ey ⊢
  have ny : Nd v E y := by rw [ey]; exact hs _ (by omega) (by omega)
  have hl' : hypL v r ++ (Sp.hypIn (ob v y) ++ (rvl (fun i => ob v (v.2.1 112 i)) m).flatMap Sp.hypIn) = hypL u r ++ Sp.hypIn (ob u h) := by
    rw [← hl, show x3.toNat = m + 1 by omega, ey]
    rfl
  -- one that is a hypothesis
  have one : Sp.hypIn (ob v y) = [ob v y] → pw_hypotheses_78 (fun x1 x3 v => x1 = r ∧ 0 ≤ x3 ∧ HyK r u v ∧ HyOk v E r ∧ (∀ i, 0 ≤ i → i < x3 → Nd v E (v.2.1 112 i)) ∧ hypL v r ++ (rvl (fun i => ob v (v.2.1 112 i)) x3.toNat).flatMap Sp.hypIn = hypL u r ++ Sp.hypIn (ob u h)) Q r (m : Int) y v := by
    intro hn
    unfold pw_hypotheses_78
    intro _ _ _ z ez _ _ _ _ w1 ew1 _ _ z2 ez2 _ _ _ _ w2 ew2
    have hz2 : z2 = v.2.1 48 r := by rw [ez2, ew1]; rfl
    rw [hz2] at ew2
    rw [ez] at ew1
    have g2 : GZ f7B v w2 := by
      rw [ew2, ew1]
      exact GZ_eq (GZ.rf hTv hUv) (fun k hk => ⟨rfl, (if_neg (by omega)).trans (if_neg (by omega))⟩) rfl ((Fx_A (by decide)).tr (Fx_A (by decide)))
    have n48 : ∀ j, w2.2.1 48 j = if j = r then v.2.1 48 r + 1 else v.2.1 48 j := fun j => by rw [ew2, ew1]; rfl
    have n49 : ∀ j, w2.2.1 49 j = if j = 120 * r + v.2.1 48 r then y else v.2.1 49 j := fun j => by rw [ew2, ew1]; rfl
    have n112 : w2.2.1 112 = v.2.1 112 := by rw [ew2, ew1]; rfl
    have n1 : w2.1 = v.1 := by rw [ew2, ew1]; rfl
    clear ew1 ew2 ez2
    have q0 := hv.1
    have k2 : HyK r v w2 := ⟨g2, n1, fun j hj => by rw [n48, if_neg hj], fun i hi => by rw [n49, if_neg (by omega)]⟩
    obtain ⟨nyw, eyw⟩ := ny.mono hTv g2
    refine ⟨rfl, by omega, kv.tr k2, ⟨by rw [n48, if_pos rfl]; omega, fun i j0 j1 => ?_⟩, fun i j0 j1 => by rw [n112]; exact ((hs i j0 (by omega)).mono hTv g2).1, ?_⟩
    · rw [n48, if_pos rfl] at j1
      rw [n49]
      by_cases c : i = v.2.1 48 r
      · rw [if_pos (by omega)]; exact nyw
      · rw [if_neg (by omega)]; exact ((hv.2 i j0 (by omega)).mono hTv g2).1
    · rw [hn] at hl'
      rw [← hl', show ((m : Int)).toNat = m by omega]
      have e1 : hypL w2 r = hypL v r ++ [ob v y] := by
        rw [hypL_ls, hypL_ls, n48, if_pos rfl, show (v.2.1 48 r + 1).toNat = (v.2.1 48 r).toNat + 1 by omega, ls_snoc]
        refine congr (congrArg _ (ls_congr (fun i hi => ?_))) ?_
        · rw [n49, if_neg (by omega), ((hv.2 _ (by omega) (by omega)).mono hTv g2).2]
        · rw [n49, if_pos (by omega), eyw]
      have e2 : rvl (fun i => ob w2 (w2.2.1 112 i)) m = rvl (fun i => ob v (v.2.1 112 i)) m := rvl_congr m (fun i hi => by rw [n112, ((hs (i : Int) (by omega) (by omega)).mono hTv g2).2])
      rw [e1, e2, List.append_assoc]
  refine p_callK hTv hUv ny.1 ny.2.1 3 (by decide) (by decide) rfl (fun b hb => ⟨fun hz => one (hypIn_no (fun z => by rw [hb.f hz] at z; cases z.1)), fun hz => ?_⟩)
  have hif := hb.t hz
  refine p_it hTv ny hif ifS_q (arOf_ifS E) (by decide) (by decide) (by decide) (fun j nj ej => ?_)
  have j0 := kat hTv hUv 0 (by decide) (by decide) rfl nj.1 nj.2.1
  have ej : ob v j = (ob v y).item 3 := ej
  rw [ej] at j0
  refine ⟨fun hn => one (hypIn_no (fun z => hn (j0.mpr z.2))), fun hn => ?_⟩
  have h3 : (ob v y).item 3 = Ob.nil := j0.mp (Decidable.not_not.mp hn)
  refine p_it hTv ny hif ifS_q (arOf_ifS E) (by decide) (by decide) (by decide) (fun b2 nb2 eb2 => ?_)
  intro _ _ w1 ew1 _
  have g1 : GZ f7B v w1 := by rw [ew1]; exact GZ_eq (GZ.rf hTv hUv) (fun k hk => ⟨rfl, if_neg (by omega)⟩) rfl (Fx_A (by decide))
  obtain ⟨nyw, eyw⟩ := ny.mono hTv g1
  refine p_it g1.1 nyw (by rw [eyw]; exact hif) ifS_q (arOf_ifS E) (by decide) (by decide) (by decide) (fun a2 na2 ea2 => ?_)
  rw [eyw] at ea2
  intro _ _ w2 ew2 _
  have g2 : GZ f7B w1 w2 := by rw [ew2]; exact GZ_eq (GZ.rf g1.1 g1.2.1) (fun k hk => ⟨rfl, if_neg (by omega)⟩) rfl (Fx_A (by decide))
  have gv2 := g1.tr g2
  have n112 : ∀ i, w2.2.1 112 i = if i = (m : Int) + 1 then a2 else if i = (m : Int) then b2 else v.2.1 112 i := fun i => by rw [ew2, ew1]; rfl
  have n48 : w2.2.1 48 = v.2.1 48 := by rw [ew2, ew1]; rfl
  have n49 : w2.2.1 49 = v.2.1 49 := by rw [ew2, ew1]; rfl
  have n1 : w2.1 = v.1 := by rw [ew2, ew1]; rfl
  clear ew1 ew2
  have k2 : HyK r v w2 := ⟨gv2, n1, fun j _ => by rw [n48], fun i _ => by rw [n49]⟩
  have na2w := (na2.mono g1.1 g2)
  have nb2w := (nb2.mono hTv gv2)
  have q0 := hv.1
  refine ⟨rfl, by omega, kv.tr k2, ⟨by rw [n48]; exact q0, fun i j0 j1 => ?_⟩, fun i j0 j1 => ?_, ?_⟩
  · rw [n48] at j1
    rw [n49]; exact ((hv.2 i j0 j1).mono hTv gv2).1
  · rw [n112]
    by_cases c : i = (m : Int) + 1
    · rw [if_pos c]; exact na2w.1
    · rw [if_neg c]
      by_cases c2 : i = (m : Int)
      · rw [if_pos c2]; exact nb2w.1
      · rw [if_neg c2]; exact ((hs i j0 (by omega)).mono hTv gv2).1
  · obtain ⟨x, y', z, exyz, _⟩ := Ob.wt_three ny.2.2.2 hif ifS_q (arOf_ifS E)
    have hz3 : z = Ob.nil := by rw [exyz] at h3; exact h3
    have ea : ob w1 a2 = x := by rw [ea2, exyz]; rfl
    have eb : ob v b2 = y' := by rw [eb2, exyz]; rfl
    rw [exyz, hz3, hypIn_if] at hl'
    rw [← hl', show ((m : Int) + 2).toNat = m + 1 + 1 by omega]
    have e1 : hypL w2 r = hypL v r := by
      rw [hypL_ls, hypL_ls, n48, n49]
      exact ls_congr (fun i hi => ((hv.2 _ (by omega) (by omega)).mono hTv gv2).2)
    have e2 : rvl (fun i => ob w2 (w2.2.1 112 i)) m = rvl (fun i => ob v (v.2.1 112 i)) m := rvl_congr m (fun i hi => by
      rw [n112, if_neg (by omega), if_neg (by omega), ((hs (i : Int) (by omega) (by omega)).mono hTv gv2).2])
    show hypL w2 r ++ (Sp.hypIn (ob w2 (w2.2.1 112 ((m + 1 : Nat) : Int))) ++ (Sp.hypIn (ob w2 (w2.2.1 112 (m : Int))) ++ (rvl (fun i => ob w2 (w2.2.1 112 i)) m).flatMap Sp.hypIn)) = _
    rw [e1, e2, n112, if_pos (by omega), n112, if_neg (by omega), if_pos rfl, na2w.2, nb2w.2, ea, eb, List.append_assoc]
/-! the rule of a formula -/
def f7U (k : Nat) : Bool := f7A k || f7X k || decide (46 ≤ k ∧ k ≤ 53)
theorem f7A_U [DecidableEq Ob] : ∀ k, f7U k = false → f7A k = false := by
  intro k h
  unfold f7U at h
  rw [Bool.or_eq_false_iff, Bool.or_eq_false_iff] at h
  exact h.1.1
theorem f7X_U [DecidableEq Ob] : ∀ k, f7U k = false → f7X k = false := by
  intro k h
  unfold f7U at h
  rw [Bool.or_eq_false_iff, Bool.or_eq_false_iff] at h
  exact h.1.2
/-- only rule r is written -/
def RuK [DecidableEq Ob] (r : Int) (u v : iST) : Prop := GZ f7U u v ∧ (∀ n j, 46 ≤ n → n ≤ 53 → n ≠ 49 → j ≠ r → v.2.1 n j = u.2.1 n j) ∧ ∀ i, i < 120 * r → v.2.1 49 i = u.2.1 49 i
theorem RuK.tr [DecidableEq Ob] {r : Int} {u v w : iST} (h : RuK r u v) (g : RuK r v w) : RuK r u w := ⟨h.1.tr g.1, fun n j a b c d => (g.2.1 n j a b c d).trans (h.2.1 n j a b c d), fun i hi => (g.2.2 i hi).trans (h.2.2 i hi)⟩
theorem RuK.of [DecidableEq Ob] {r : Int} {u v : iST} (h : GZ f7U u v) (hq : ∀ n, 46 ≤ n → n ≤ 53 → v.2.1 n = u.2.1 n) : RuK r u v := ⟨h, fun n j a b _ _ => by rw [hq n a b], fun i _ => by rw [hq 49 (by decide) (by decide)]⟩
theorem RuK.rf [DecidableEq Ob] {r : Int} {u : iST} (hT : TI u) (hU : TU u) : RuK r u u := RuK.of (GZ.rf hT hU) (fun _ _ _ => rfl)
theorem RuK_A [DecidableEq Ob] {r x : Int} {n : Nat} {u : iST} (hT : TI u) (hU : TU u) (h1 : 46 ≤ n) (h2 : n ≤ 53) (h3 : n ≠ 49) : RuK r u (iA u n r x) := by
  refine ⟨GZ_eq (GZ.rf hT hU) (fun k hk => ⟨rfl, if_neg (by omega)⟩) rfl (Fx_A (by unfold f7U; simp only [Bool.or_eq_true, decide_eq_true_eq]; omega)), fun m j a b c d => ?_, fun i hi => ?_⟩
  · rw [iA_row, if_neg (fun z => d z.2)]
  · rw [iA_row, if_neg (fun z => h3 z.1.symm)]
theorem HyK.ru [DecidableEq Ob] {r : Int} {u v : iST} (h : HyK r u v) : RuK r u v := by
  refine ⟨h.1.mono (fun k hk => ?_), fun n j a b c d => ?_, h.2.2.2⟩
  · unfold f7U at hk
    unfold f7B
    rw [Bool.or_eq_false_iff, Bool.or_eq_false_iff] at hk
    obtain ⟨⟨_, h1⟩, h2⟩ := hk
    simp only [decide_eq_false_iff_not] at h2 ⊢
    intro z
    rcases z with z | z | z
    · omega
    · omega
    · rw [z] at h1; revert h1; decide
  · by_cases c48 : n = 48
    · rw [c48]; exact h.2.2.1 j d
    · have : f7B n = false := by
        unfold f7B
        simp only [decide_eq_false_iff_not]
        omega
      rw [(h.1.2.2.2.2 n this).2]
/-- what is known of rule r when all is written -/
def RuO [DecidableEq Ob] (v : iST) (E : Sp.Env) (r : Int) (R : Option Sp.Rul) : Prop :=
  v.2.1 53 r = 0 ∧ ((v.2.1 46 r = -1 ∧ R = none) ∨ (v.2.1 46 r ≠ -1 ∧ R = some (ob v (v.2.1 46 r), ob v (v.2.1 47 r), hypL v r, decide (v.2.1 51 r ≠ 0), decide (v.2.1 50 r ≠ 0), decide (v.2.1 52 r ≠ 0)) ∧ Nd v E (v.2.1 46 r) ∧ (ob v (v.2.1 46 r)).isCall = true ∧ Nd v E (v.2.1 47 r) ∧ HyOk v E r ∧ (∀ x, vr false (ob v (v.2.1 47 r)) x → vr false (ob v (v.2.1 46 r)) x) ∧ ∀ i, 0 ≤ i → i < v.2.1 48 r → ∀ x, vr false (ob v (v.2.1 49 (120 * r + i))) x → vr false (ob v (v.2.1 46 r)) x))
