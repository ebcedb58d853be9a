-- deps: 531
/-! the reference: on, off, undo -/
theorem Ran_turn [DecidableEq Ob] {H : Sp.Hs} {fuel : Nat} {o : Ob} {r : Sp.Res} (h : Ob.lft o = Ob.on ∨ Ob.lft o = Ob.off) (hr : if Ob.len o = 2 ∧ Ob.isName (Ob.item o 1) ∧ ((Sp.Env.thmOf (H.env []) (Ob.item o 1)).any (fun k => k.rule.isSome)) then r = ((H.1, Sp.turnOn (Ob.item o 1) (Ob.lft o = Ob.on) H.2.1, H.2.2), 0, 0, false) else r = Sp.nothing H) : Sp.Ran H fuel o r := by
  have ne : ∀ s : List Int, Ob.enc s ≠ Ob.enc [111, 110] → Ob.enc s ≠ Ob.enc [111, 102, 102] → Ob.lft o ≠ Ob.sym s := fun s h1 h2 z => by
    rcases h with q | q
    · exact Ob.sym_ne h1 (z.symm.trans q)
    · exact Ob.sym_ne h2 (z.symm.trans q)
  unfold Sp.Ran
  rw [if_neg (show ¬ Ob.lft o = Ob.eval from ne _ (by decide) (by decide)), if_neg (show ¬ Ob.lft o = Ob.simplify from ne _ (by decide) (by decide)), if_neg (show ¬ (Ob.lft o = Ob.prove ∨ Ob.lft o = Ob.defthm) from fun z => z.elim (ne _ (by decide) (by decide)) (ne _ (by decide) (by decide))), if_neg (show ¬ Ob.lft o = Ob.defun from ne _ (by decide) (by decide)), if_neg (show ¬ Ob.lft o = Ob.check from ne _ (by decide) (by decide)), if_pos h]
  exact hr
theorem Ran_undo [DecidableEq Ob] {H : Sp.Hs} {fuel : Nat} {o : Ob} {r : Sp.Res} (h : Ob.lft o = Ob.undo) (hr : if Ob.len o = 1 ∧ H.2.2 ≠ [] then r = ((if H.2.2.getLast? = some 1 then H.1.dropLast else H.1, if H.2.2.getLast? = some 1 then H.2.1 else H.2.1.dropLast, H.2.2.dropLast), 0, 0, false) else r = Sp.nothing H) : Sp.Ran H fuel o r := by
  have ne : ∀ s : List Int, Ob.enc s ≠ Ob.enc [117, 110, 100, 111] → Ob.lft o ≠ Ob.sym s := fun s h1 z => Ob.sym_ne h1 (z.symm.trans h)
  unfold Sp.Ran
  rw [if_neg (show ¬ Ob.lft o = Ob.eval from ne _ (by decide)), if_neg (show ¬ Ob.lft o = Ob.simplify from ne _ (by decide)), if_neg (show ¬ (Ob.lft o = Ob.prove ∨ Ob.lft o = Ob.defthm) from fun z => z.elim (ne _ (by decide)) (ne _ (by decide))), if_neg (show ¬ Ob.lft o = Ob.defun from ne _ (by decide)), if_neg (show ¬ Ob.lft o = Ob.check from ne _ (by decide)), if_neg (show ¬ (Ob.lft o = Ob.on ∨ Ob.lft o = Ob.off) from fun z => z.elim (ne _ (by decide)) (ne _ (by decide))), if_pos h]
  exact hr
def Sp.upd [DecidableEq Ob] (b : Bool) (k : Sp.Thm) : Sp.Thm := (k.1, k.2.1, k.2.2.1, k.2.2.2.map (Sp.setOn b))
theorem turnOn_set [DecidableEq Ob] (n : Ob) (b : Bool) : ∀ (l : List Sp.Thm) (d : Nat) (x : Sp.Thm), l[d]? = some x → x.1 = n → (∀ e y, e < d → l[e]? = some y → y.1 ≠ n) → Sp.turnOn n b l = l.set d (Sp.upd b x)
  | [], d, x, h, _, _ => by simp at h
  | k :: ks, 0, x, h, hn, _ => by
    have h : some k = some x := h
    have h := Option.some.inj h
    unfold Sp.turnOn
    rw [h, if_pos hn]
    rfl
  | k :: ks, d + 1, x, h, hn, hf => by
    have hk : k.1 ≠ n := hf 0 k (by omega) rfl
    unfold Sp.turnOn
    rw [if_neg hk, turnOn_set n b ks d x h hn (fun e y he hy => hf (e + 1) y (by omega) hy)]
    rfl
theorem p_turn [DecidableEq Ob] {a on : Int} {Q : Int → iST → Prop} {u : iST} {H : Sp.Hs} {fuel : Nat} (hI : CmI u H fuel a) (ho : on = 1 ∧ Ob.lft (ob u a) = Ob.on ∨ on = 0 ∧ Ob.lft (ob u a) = Ob.off) (hq : ∀ ans v r, Sp.Ran H fuel (ob u a) r → CmO u v r ans → Q ans v) : pw_turn a on Q u := by
  obtain ⟨hX, bg, ⟨h71, h64, h61, h60, h59, h62, h63⟩, a0, a1⟩ := hI
  have hT := hX.1
  have hU := hX.2.1
  have hXX := hX
  obtain ⟨_, _, ⟨hD, h57, hW, hTk⟩, hFm, hOk, h54, hsr, hMk⟩ := hXX
  have hoo : Ob.lft (ob u a) = Ob.on ∨ Ob.lft (ob u a) = Ob.off := ho.imp (fun z => z.2) (fun z => z.2)
  have hon : decide (on ≠ 0) = decide (Ob.lft (ob u a) = Ob.on) := by
    rcases ho with ⟨q1, q2⟩ | ⟨q1, q2⟩
    · rw [q1, q2]; simp
    · rw [q1, q2, decide_eq_false (show ¬ Ob.off = Ob.on from Ob.sym_ne (by decide))]; rfl
  have no : ∀ ans : Int, ¬ (ans = 5 ∨ ans = 6) → ¬ (Ob.len (ob u a) = 2 ∧ Ob.isName (Ob.item (ob u a) 1) = true ∧ ((Sp.Env.thmOf (H.env []) (Ob.item (ob u a) 1)).any (fun k => k.rule.isSome)) = true) → Q ans u := fun ans ha hn => hq ans u _ (Ran_turn hoo (by rw [if_neg hn])) (CmO.no hX bg (GZ.rf hT hU) h64 h60 h62 ha)
  unfold pw_turn
  refine p_lengthOf hT hU a0 a1 ⟨fun hz => no 2 (by decide) (fun z => hz z.1), fun hz => ?_⟩
  have hl : (ob u a).len = 2 := Decidable.not_not.mp hz
  refine p_nthL hT a0 a1 (by decide) (by rw [hl]; decide) (fun x x0 x1 ex => ?_)
  have ex : ob u x = Ob.item (ob u a) 1 := ex
  refine p_isNewName hT hU x0 x1 (fun b hb => ⟨fun hz2 => ?_, fun hz2 => no 2 (by decide) (fun z => by have := z.2.1; rw [← ex, hb.f (Decidable.not_not.mp hz2)] at this; cases this)⟩)
  have hname : Ob.isName (Ob.item (ob u a) 1) = true := by rw [← ex]; exact hb.t hz2
  refine p_nthL hT a0 a1 (by decide) (by rw [hl]; decide) (fun x' x0' x1' ex' => ?_)
  have ex' : ob u x' = Ob.item (ob u a) 1 := ex'
  refine p_theoremOf hT hU hTk x0' x1' (fun hn => ⟨fun _ => no 3 (by decide) (fun z => ?_), fun z => absurd rfl z⟩) (fun d d0 d1 ed hds hfirst => ⟨fun z => by omega, fun _ => ?_⟩)
  · have := z.2.2
    rw [← ex', hn] at this; cases this
  rw [ex'] at hds
  intro _ _ y ey _
  rw [ey]
  refine ⟨fun h46 => ?_, fun h46 => no 3 (by decide) (fun z => ?_)⟩
  rotate_left
  · have h2 := z.2.2
    rw [hds] at h2
    have h2 : (thm1 u d).2.2.2.isSome = true := h2
    unfold thm1 at h2
    rw [show (if u.2.1 46 d = -1 then none else some (ob u (u.2.1 46 d), ob u (u.2.1 47 d), hypL u d, decide (u.2.1 51 d ≠ 0), decide (u.2.1 50 d ≠ 0), decide (u.2.1 52 d ≠ 0))) = none from if_pos (Decidable.not_not.mp h46)] at h2
    cases h2
  intro _ _ _ v ev
  have vn : v.1 = u.1 := by rw [ev]; rfl
  have vr' : ∀ k, k ≠ 52 → v.2.1 k = u.2.1 k := fun k hk => by rw [ev]; exact if_neg hk
  have v52 : ∀ i, v.2.1 52 i = if i = d then on else u.2.1 52 i := fun i => by rw [ev]; rfl
  have vL : v.2.2 = u.2.2 := by rw [ev]; rfl
  clear ev
  have g : GZ (fun _ => true) u v := GZ_eq (GZ.rf hT hU) (fun k hk => ⟨by rw [vn], vr' k (by omega)⟩) vL (fun k z => by cases z)
  have eo : ∀ j, ob v j = ob u j := ob_same (vr' 0 (by decide)) (vr' 1 (by decide)) (vr' 9 (by decide)) (vr' 10 (by decide)) vL
  have e1 : H.2.1 = thmsL u := hTk.1
  have t0 := hTk.2.1
  -- the theorems
  have ehyp : ∀ i, hypL v i = hypL u i := fun i => by
    unfold hypL
    rw [vr' 48 (by decide), vr' 49 (by decide)]
    exact List.map_congr_left (fun j _ => eo _)
  have eother : ∀ i, i ≠ d → thm1 v i = thm1 u i := fun i hi => by
    unfold thm1
    rw [vr' 43 (by decide), vr' 44 (by decide), vr' 45 (by decide), vr' 46 (by decide), vr' 47 (by decide), vr' 50 (by decide), vr' 51 (by decide), v52, if_neg hi, eo, eo, eo, eo, ehyp]
  have ethis : thm1 v d = Sp.upd (decide (on ≠ 0)) (thm1 u d) := by
    unfold thm1 Sp.upd
    rw [vr' 43 (by decide), vr' 44 (by decide), vr' 45 (by decide), vr' 46 (by decide), vr' 47 (by decide), vr' 50 (by decide), vr' 51 (by decide), v52, if_pos rfl, eo, eo, eo, eo, ehyp]
    show (_, _, _, if u.2.1 46 d = -1 then none else _) = (_, _, _, (if u.2.1 46 d = -1 then none else _).map _)
    rw [if_neg h46, if_neg h46]
    rfl
  have ethms : Sp.turnOn (Ob.item (ob u a) 1) (decide (Ob.lft (ob u a) = Ob.on)) H.2.1 = thmsL v := by
    rw [← hon, e1]
    have hget : ∀ i : Nat, (i : Int) < u.1 42 → (thmsL u)[i]? = some (thm1 u (i : Int)) := fun i hi => by
      unfold thmsL
      rw [List.getElem?_map, List.getElem?_range (by omega)]; rfl
    have hd' : (thmsL u)[d.toNat]? = some (thm1 u d) := by
      have := hget d.toNat (by omega)
      rw [show ((d.toNat : Nat) : Int) = d by omega] at this
      exact this
    rw [turnOn_set _ _ (thmsL u) d.toNat (thm1 u d) hd' (by show ob u (u.2.1 43 d) = _; rw [ed]; exact ex') (fun e y' he hy => ?_)]
    · refine List.ext_getElem? (fun i => ?_)
      have lu : (thmsL u).length = (u.1 42).toNat := by unfold thmsL; simp
      have lv : (thmsL v).length = (u.1 42).toNat := by unfold thmsL; rw [vn]; simp
      by_cases hi : (i : Int) < u.1 42
      · have hgv : (thmsL v)[i]? = some (thm1 v (i : Int)) := by
          unfold thmsL
          rw [vn, List.getElem?_map, List.getElem?_range (by omega)]; rfl
        rw [hgv]
        by_cases c : d.toNat = i
        · rw [← c, List.getElem?_set_self (by omega), ← ethis, show ((d.toNat : Nat) : Int) = d by omega]
        · rw [List.getElem?_set_ne c, hget i hi, eother _ (by omega)]
      · rw [List.getElem?_eq_none (by rw [List.length_set]; omega), List.getElem?_eq_none (by omega)]
    · have he42 : (e : Int) < u.1 42 := by omega
      rw [hget e he42] at hy
      rw [← Option.some.inj hy]
      show ob u (u.2.1 43 (e : Int)) ≠ _
      intro z
      have a := (hTk.2.2.1 (e : Int) (by omega) he42).1
      rw [← ex'] at z
      exact hfirst (e : Int) (by omega) (by omega) ((hT.inj hU a.1 a.2 x0' x1').mp z)
  have ok := HOk.turn hOk (Ob.item (ob u a) 1) (decide (Ob.lft (ob u a) = Ob.on))
  have kMk := hMk.keep (v := v) (by rw [vn]; exact Int.le_refl _) (by rw [vn]) (fun k a b => vr' k (by omega))
  refine hq 0 v ((H.1, Sp.turnOn (Ob.item (ob u a) 1) (Ob.lft (ob u a) = Ob.on) H.2.1, H.2.2), 0, 0, false) (Ran_turn hoo ?_) ⟨by rw [vn]; exact h64, ⟨by rw [vn], vr' 12 (by decide)⟩, by rw [vn]; exact h60, by rw [if_neg (by decide)], by rw [vn, h62]; exact bq0 rfl, [], ⟨g.1, g.2.1, ⟨?_, by rw [vn]; exact h57, HWf.dwf (HOk.wf ok), ⟨?_, by rw [vn]; exact t0, fun r r0 r1 => ?_, fun r r0 r1 => ?_⟩⟩, fun k k0 k1 => ?_, ok, by rw [vn]; exact h54, by rw [kMk.2]; exact hsr, kMk.1⟩, fun _ => ?_⟩
  · rw [if_pos ⟨hl, hname, by
      rw [hds]
      show (thm1 u d).2.2.2.isSome = true
      unfold thm1
      rw [show (if u.2.1 46 d = -1 then none else some (ob u (u.2.1 46 d), ob u (u.2.1 47 d), hypL u d, decide (u.2.1 51 d ≠ 0), decide (u.2.1 50 d ≠ 0), decide (u.2.1 52 d ≠ 0))) = some (ob u (u.2.1 46 d), ob u (u.2.1 47 d), hypL u d, decide (u.2.1 51 d ≠ 0), decide (u.2.1 50 d ≠ 0), decide (u.2.1 52 d ≠ 0)) from if_neg h46]
      rfl⟩]
  · exact hD.mono hT g ⟨by rw [vn], vr' 36 (by decide), vr' 37 (by decide), vr' 38 (by decide), vr' 39 (by decide), vr' 40 (by decide), vr' 41 (by decide)⟩
  · exact ethms
  · rw [vn] at r1
    obtain ⟨b1, b2, b3⟩ := hTk.2.2.1 r r0 r1
    unfold Th1
    rw [vr' 43 (by decide), vr' 44 (by decide), vr' 46 (by decide), vr' 47 (by decide), vr' 48 (by decide), vr' 49 (by decide), vn]
    refine ⟨b1, b2, fun z => ?_⟩
    obtain ⟨c1, c2, c3, c4, c5, c6⟩ := b3 z
    exact ⟨(c1.mono hT g).1, by rw [eo]; exact c2, (c3.mono hT g).1, c4, by rw [eo, eo]; exact c5, fun i i0 i1 => ⟨((c6 i i0 i1).1.mono hT g).1, by rw [eo, eo]; exact (c6 i i0 i1).2⟩⟩
  · rw [vn] at r1
    rw [vr' 53 (by decide), vr' 43 (by decide), eo]
    exact hTk.2.2.2 r r0 r1
  · rw [vn] at k1
    rw [vr' 44 (by decide)]
    exact ((hFm k k0 k1).mono hT g).1
  · obtain ⟨g1, g2, g3, g4⟩ := bg
    have es : srt v = srt u := kMk.2
    exact ⟨by rw [vn]; exact g1, by rw [vn]; exact g2, fun i i0 i1 => by rw [vn] at i1 ⊢; rw [vr' 56 (by decide)]; exact g3 i i0 i1, by rw [vn]; exact g4.keep es (fun k a b => vr' k (by omega))⟩
/-! what a rule is made of -/
theorem hypIn_wt [DecidableEq Ob] {E : Sp.Env} : ∀ (n : Nat) (o : Ob), SizeOf.sizeOf o < n → Ob.wt (Sp.arOf E) o → ∀ x, x ∈ Sp.hypIn o → Ob.wt (Sp.arOf E) x
  | 0, _, h, _, _, _ => by omega
  | n + 1, o, h, w, x, hx => by
    by_cases c : o.isCallOf Ob.ifS = true ∧ o.item 3 = Ob.nil
    · obtain ⟨a, b, d, e, wa, wb, wd⟩ := Ob.wt_three w c.1 ifS_q (arOf_ifS E)
      have hd : d = Ob.nil := by have := c.2; rw [e] at this; exact this
      rw [e, hd] at h hx
      rw [hypIn_if] at hx
      rcases List.mem_append.mp hx with q | q
      · exact hypIn_wt n a (by simp at h; omega) wa x q
      · exact hypIn_wt n b (by simp at h; omega) wb x q
    · rw [hypIn_no c] at hx
      rw [List.mem_singleton.mp hx]; exact w
theorem ruleGo_wt [DecidableEq Ob] {E : Sp.Env} : ∀ (n : Nat) (o : Ob) (l : List Ob), SizeOf.sizeOf o < n → Ob.wt (Sp.arOf E) o → (∀ x, x ∈ l → Ob.wt (Sp.arOf E) x) → ∀ x, x ∈ (Sp.ruleGo o l).1 → Ob.wt (Sp.arOf E) x
  | 0, _, _, h, _, _, _, _ => by omega
  | n + 1, o, l, h, w, hl, x, hx => by
    by_cases c : o.isCallOf Ob.implies = true
    · obtain ⟨a, b, e, wa, wb⟩ := Ob.wt_two w c implies_q (arOf_implies E)
      rw [e] at h hx
      rw [ruleGo_imp] at hx
      refine ruleGo_wt n b (l ++ Sp.hypIn a) (by simp at h; omega) wb (fun y hy => ?_) x hx
      rcases List.mem_append.mp hy with q | q
      · exact hl y q
      · exact hypIn_wt (SizeOf.sizeOf a + 1) a (Nat.lt_succ_self _) wa y q
    · rw [ruleGo_no l (by simpa using c)] at hx
      exact hl x hx
theorem ruleOf_wt [DecidableEq Ob] {E : Sp.Env} {F : Ob} {R : Sp.Rul} (w : Ob.wt (Sp.arOf E) F) (h : Sp.ruleOf F = some R) : Ob.wt (Sp.arOf E) R.lhs ∧ Ob.wt (Sp.arOf E) R.rhs ∧ ∀ x, x ∈ R.hyps → Ob.wt (Sp.arOf E) x := by
  have g2 := (ruleGo_sz (SizeOf.sizeOf F + 1) F [] (Nat.lt_succ_self _) w).2
  have g1 := ruleGo_wt (SizeOf.sizeOf F + 1) F [] (Nat.lt_succ_self _) w (fun x hx => by cases hx)
  unfold Sp.ruleOf at h
  generalize (Sp.ruleGo F []).1 = hs at h g1
  generalize (Sp.ruleGo F []).2 = o at h g2
  unfold Sp.ruleOn at h
  have rr : ∀ {hh : List Ob} {e n : Bool} {l r : Ob}, Sp.ruleAt hh e n l r = some R → R.lhs = l ∧ R.rhs = r ∧ R.hyps = hh := by
    intro hh e n l r q
    unfold Sp.ruleAt at q
    split at q
    · rw [← Option.some.inj q]; exact ⟨rfl, rfl, rfl⟩
    · cases q
  obtain ⟨r1, r2, r3⟩ := rr h
  rw [r1, r2, r3]
  refine ⟨?_, ?_, g1⟩
  · split
    · next c =>
      rw [Bool.or_eq_true] at c
      rcases c with c | c
      · obtain ⟨a, b, e, wa, _⟩ := Ob.wt_two g2 c equal_q (arOf_equal E)
        rw [e]; exact wa
      · obtain ⟨a, e, wa⟩ := Ob.wt_one g2 c not_q (arOf_not E)
        rw [e]; exact wa
    · exact g2
  · split
    · next c =>
      obtain ⟨a, b, e, _, wb⟩ := Ob.wt_two g2 c equal_q (arOf_equal E)
      rw [e]; exact wb
    · split
      · exact Ob.wt_leaf rfl
      · exact Ob.wt_leaf rfl
