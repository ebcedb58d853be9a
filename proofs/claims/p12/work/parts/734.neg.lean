-- deps: 733
/-! the class: NOT rewritten -/
theorem pc_isBooleanA [DecidableEq Ob] {a : Int} {Q : Int → iST → Prop} {u : iST} (hT : CT u) (ha : VN u a) (hq : ∀ r, Q r u) : pv_10_isBoolean a Q u := pc_isBoolean hT ha (fun r _ => hq r)
/-- looking up whatever there is -/
theorem pc_lookedUpD [DecidableEq Ob] {k g row : Int} {Q : Int → iST → Prop} {u : iST} (hT : CT u) (hk : -1 ≤ k ∧ k < u.1 29) (hr : VN u row) (hq : ∀ r, -1 ≤ r → r < u.1 29 → Q r u) : pv_6_lookedUp k g row Q u := by
  have u44 : 44 ≤ u.1 29 := hT.1.1.1
  unfold pv_6_lookedUp
  refine pv_6_lookedUp_12_i (fun x1 x2 x4 x5 x6 x7 y => x1 = k ∧ y = u ∧ VN u x7 ∧ (x4 ≠ 0 → 0 ≤ k) ∧ -1 ≤ x6 ∧ x6 < u.1 29) ?_ ⟨rfl, rfl, hr, fun z => absurd rfl z, by decide, by omega⟩
  rintro x1 x2 x4 x5 x6 x7 y ⟨a1, ay, v7, h4, h6, h6'⟩
  rw [a1, ay]
  unfold pv_6_lookedUp_12b
  refine pc_isPair hT v7 (fun r _ => ⟨fun z => ?_, fun z => ?_⟩)
  · have rest : pv_6_lookedUp_209 Q k x5 x6 u := by
      unfold pv_6_lookedUp_209
      exact ⟨fun _ => ⟨fun _ => hq k hk.1 hk.2, fun _ => hq x6 h6 h6'⟩, fun _ => hq 0 (by decide) (by omega)⟩
    have yes : Q 1 u := hq 1 (by decide) (by omega)
    exact ⟨fun _ => rest, fun z4 => ⟨fun _ => yes, fun _ => pc_isBooleanA hT ⟨h4 z4, hk.2⟩ (fun r2 => ⟨fun _ => rest, fun _ => yes⟩)⟩⟩
  · refine pc_left hT v7 (fun v3 vv3 _ => pc_item hT vv3 (by decide) (fun v4 vv4 _ => ?_))
    have next : ∀ y4 y5 y6, (y4 ≠ 0 → 0 ≤ k) → -1 ≤ y6 → y6 < u.1 29 → pv_6_lookedUp_172 (fun x1 x2 x4 x5 x6 x7 y => x1 = k ∧ y = u ∧ VN u x7 ∧ (x4 ≠ 0 → 0 ≤ k) ∧ -1 ≤ x6 ∧ x6 < u.1 29) Q k x2 y4 y5 y6 x7 u := by
      intro y4 y5 y6 q4 q6 q6'
      unfold pv_6_lookedUp_172
      exact pc_right hT v7 (fun t vt _ => ⟨rfl, rfl, vt, q4, q6, q6'⟩)
    have key : ∀ y4, (y4 ≠ 0 → 0 ≤ k) → pv_6_lookedUp_63 (fun x1 x2 x4 x5 x6 x7 y => x1 = k ∧ y = u ∧ VN u x7 ∧ (x4 ≠ 0 → 0 ≤ k) ∧ -1 ≤ x6 ∧ x6 < u.1 29) Q k x2 x5 x6 x7 v3 v4 y4 u := by
      intro y4 q4
      unfold pv_6_lookedUp_63
      refine pc_isCallK 16 hT vv3 (by decide) (by decide) (o := Ob.not) rfl (fun r1 _ => ⟨fun _ => ?_, fun _ => ?_⟩)
      · refine pc_isCallK 4 hT vv3 (by decide) (by decide) (o := Ob.equal) rfl (fun r2 _ => ⟨fun _ => next y4 x5 x6 q4 h6 h6', fun _ => ?_⟩)
        refine pc_item hT vv3 (by decide) (fun v8 vv8 _ => ?_)
        have vv4' := vv4.1
        have vv8' := vv8.1
        have second : pv_6_lookedUp_150 (fun x1 x2 x4 x5 x6 x7 y => x1 = k ∧ y = u ∧ VN u x7 ∧ (x4 ≠ 0 → 0 ≤ k) ∧ -1 ≤ x6 ∧ x6 < u.1 29) Q k x2 y4 x5 x6 x7 v4 v8 u := by
          unfold pv_6_lookedUp_150
          exact ⟨fun _ => next y4 x5 x6 q4 h6 h6', fun _ => pc_isConstant hT vv4 (fun r3 _ => ⟨fun _ => next y4 x5 x6 q4 h6 h6', fun _ => next y4 x5 v4 q4 (by omega) vv4.2⟩)⟩
        exact ⟨fun _ => second, fun _ => pc_isConstant hT vv8 (fun r3 _ => ⟨fun _ => second, fun _ => next y4 x5 v8 q4 (by omega) vv8.2⟩)⟩
      · have one : pv_6_lookedUp_90 (fun x1 x2 x4 x5 x6 x7 y => x1 = k ∧ y = u ∧ VN u x7 ∧ (x4 ≠ 0 → 0 ≤ k) ∧ -1 ≤ x6 ∧ x6 < u.1 29) Q k x2 y4 x6 x7 u := by
          unfold pv_6_lookedUp_90 pv_6_lookedUp_95
          exact next y4 1 x6 q4 h6 h6'
        refine ⟨fun _ => one, fun _ => ⟨fun _ => ?_, fun _ => one⟩⟩
        unfold pv_6_lookedUp_95
        exact next y4 0 x6 q4 h6 h6'
    refine ⟨fun z4 => ?_, fun _ => ⟨fun _ => key 0 (fun q => absurd rfl q), fun z4 => ?_⟩⟩
    · unfold pv_6_lookedUp_58
      exact key 1 (fun _ => h4 z4)
    · unfold pv_6_lookedUp_58
      have := Decidable.not_not.mp z4
      have := vv3.1
      exact key 1 (fun _ => by omega)
section
variable {α : Type} {u0 v0 v : iST} {E : Sp.Env} {B x g row c t T : Int} {R : EStateM.Result Unit Sp.Wk α} {Q : Int → iST → Prop} {K : Ob → Sp.M α} {d : Nat} {ctx : List Ob}
/-- the term within a NOT came out -/
theorem st_neg [DecidableEq Ob] {a : Int} (hM : FmJ u0 E B R Q d c x g row v0 T K) (hS : StJ E c x g row ctx v0 v) (hs : v.2.1 51 (17 * c + 3) = 5) (h24 : v.1 24 = a) (na : NdC v E a) (hP : PdK B f8Jn f8Jr u0 v R (Sp.bd (Sp.rwNot ctx (oc v a) (decide (g = 1))) (fun y => K (Sp.fin (decide (g = 1)) y)))) (ht : t + T + 1 ≤ 24 * (v.1 31 - u0.1 31)) : pv_6_rewritten_20 Q t v := by
  have hC := hM.1
  have T0 := hM.2.2.2.2.2.2
  have hT := hS.ct
  refine hd_5 hS.2.1.1 hM.2.2.2.2.1 hS.2.2.1 (hC.turn hP hS.2.2.1 (by omega)) hs ?_
  unfold Sp.rwNot at hP
  rw [bd_assoc] at hP
  have mn : ∀ x : Ob, Mono (Sp.bd (Sp.ret (if Ob.isConst x then x else Sp.look ctx x (decide (g = 1)))) (fun y => K (Sp.fin (decide (g = 1)) y))) := fun x => Mono.bd Mono.ret (nf_mono hM.2.2.2.1 _)
  -- what was made
  have fin : ∀ o w, CG f8B f8W v w → (v.1 32 ≠ 0 → w.1 32 ≠ 0) → NdD w E o → PdK B f8Jn f8Jr u0 w R (Sp.bd (Sp.ret (if Ob.isConst (oc w o) then oc w o else Sp.look ctx (oc w o) (decide (g = 1)))) (fun y => K (Sp.fin (decide (g = 1)) y))) → (o = -1 → w.1 32 ≠ 0) → pv_6_goOnWithNegation_83 (fun u => ovp (t + 1) (pv_6_rewritten_20 Q (t + 1) u)) c o w := by
    intro o w gw wd nt hPw hno
    have hPw := hPw.retd
    have kw : RjK (c + 1) v w := RjK.of gw f8B_J f8W_J (by decide)
    have w31 : w.1 31 = v.1 31 := gw.2.2.1 31 (by decide)
    have hF := hS.2.1.keep (w := w) (by rw [gw.2.2.1 23 (by decide)]; exact hS.2.1.1) (fun j hj _ => kw.2.1 j (by omega)) kw.2.2
    have kw0 : RjK c v0 w := hS.1.tr kw (by omega)
    have cx := hS.2.2.2.2.1.up hT gw
    have en : ∀ r, NdD w E r → (w.1 32 = 0 → oc w r = if Ob.isConst (oc w o) then oc w o else Sp.look ctx (oc w o) (decide (g = 1))) → pv_6_goOnWithNegation_111 (fun u => ovp (t + 1) (pv_6_rewritten_20 Q (t + 1) u)) r w := by
      intro r nr er
      unfold pv_6_goOnWithNegation_111
      refine fr_fin (t := t + 1) hM kw0 hF nr ?_ (by rw [w31]; omega) (fun w h _ => h)
      by_cases h32 : w.1 32 = 0
      · rw [er h32]; exact hPw
      · obtain ⟨s, hd, e⟩ := hPw.dead h32
        exact ⟨hPw.1, Or.inr ⟨s, hd, e⟩⟩
    unfold pv_6_goOnWithNegation_83
    by_cases h32 : w.1 32 = 0
    · have no := nt.2.2 h32
      refine pc_isConstant gw.1 no.1 (fun r hr => ⟨fun z => ?_, fun z => en o nt (fun _ => by rw [if_pos (hr.t z)])⟩)
      intro _ _ n6 en6 _ _ _ n7 en7 _
      rw [en6, hF.2.2.1, en7, hF.2.2.2.1]
      refine pc_lookedUp gw.1 no cx (fun r2 n2 e2 => en r2 n2.d (fun _ => ?_))
      rw [if_neg (by rw [hr.f z]; decide)]
      exact e2
    · refine pc_isConstantA gw.1 ⟨nt.1, nt.2.1⟩ (fun r => ⟨fun z => ?_, fun z => en o nt (fun z => absurd z h32)⟩)
      intro _ _ n6 en6 _ _ _ n7 en7 _
      rw [en6, hF.2.2.1, en7, hF.2.2.2.1]
      exact pc_lookedUpD gw.1 ⟨nt.1, nt.2.1⟩ cx.1 (fun r2 h1 h2 => en r2 ⟨h1, h2, fun z => absurd z h32⟩ (fun z => absurd z h32))
  have plain : (Ob.isCallOf (oc v a) Ob.not && !Ob.isBool (Ob.item (oc v a) 1) && !decide (g = 1)) = false → pv_6_goOnWithNegation_48 (fun u => ovp (t + 1) (pv_6_rewritten_20 Q (t + 1) u)) c v := by
    intro hf
    rw [hf, if_neg (by decide)] at hP
    unfold pv_6_goOnWithNegation_48 pv_6_goOnWithNegation_49
    refine ⟨fun _ => ?_, fun z => absurd rfl z⟩
    intro n3 en3 _
    rw [en3, h24]
    exact pc_negated hP f8B_J f8W_J hC.2.2.1 mn na (fun o w gw wd nt hPw hno => fin o w gw wd nt hPw hno)
  unfold pv_6_goOnWithNegation
  intro n1 en1 _
  rw [en1, h24]
  refine pc_isCallK 16 hT na.1 (by decide) (by decide) (o := Ob.not) rfl (fun r1 hr1 => ⟨fun z => plain ?_, fun z => ?_⟩)
  · rw [hr1.f z]; rfl
  intro _ _ n12 en12 _
  rw [en12, hS.2.1.2.2.1]
  refine ⟨fun zg => plain ?_, fun zg => ?_⟩
  · have : g = 1 := by rcases hS.2.2.2.2.2 with q | q <;> omega
    rw [decide_eq_true this]; simp
  have zg := Decidable.not_not.mp zg
  intro n13 en13 _
  rw [en13, h24]
  have hn := hr1.t z
  refine pc_it hT na hn (Ob.sym_ne (by decide)) (arOf_not E) (by decide) (by decide) (fun m nm em => ?_)
  have em : oc v m = (oc v a).item 1 := em
  refine pc_isBoolean hT nm.1 (fun r2 hr2 => ⟨fun z2 => plain ?_, fun z2 => ?_⟩)
  · have := hr2.t z2
    rw [em] at this
    rw [this]; simp
  have hb := hr2.f (Decidable.not_not.mp z2)
  rw [em] at hb
  rw [if_pos (by rw [hn, hb, decide_eq_false (show ¬ g = 1 by omega)]; rfl)] at hP
  unfold pv_6_goOnWithNegation_49
  refine ⟨(fun z => by cases z), fun _ => ?_⟩
  intro n10 en10 _
  rw [en10, h24]
  exact pc_mk1 hP f8B_J f8W_J hC.2.2.1 mn (kn_c hT 16 (o := Ob.not) (by decide) (by decide) rfl) (Ob.sym_isSym _) (Ob.sym_ne (by decide)) (arOf_not E) na.d (fun o w gw wd nt hPw hno => fin o w gw wd nt hPw hno)
end
