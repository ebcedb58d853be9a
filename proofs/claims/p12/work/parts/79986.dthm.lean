-- deps: 79985
/-! the class: prove and defthm -/
theorem usesOf_env [DecidableEq Ob] {H : Sp.Hs} {m : List Ob} (l : List Ob) : Sp.usesOf (H.env m) l = Sp.usesOf (H.env []) l := by
  unfold Sp.usesOf
  rw [pairsOf_env]
  rfl
theorem hintsGo_each [DecidableEq Ob] {E : Sp.Env} : ∀ (hs : List Ob) (i o : Bool) (a : Int), (a = 0 ∨ a = 3) → Sp.hintsGo E hs i o a = 0 → a = 0 ∧ ∀ h, h ∈ hs → ∃ i' o', Sp.hintAsk E h i' o' = 0
  | [], _, _, _, _, h => ⟨h, fun _ q => by cases q⟩
  | x :: hs, i, o, a, ha, h => by
    have r := hintAsk_range E x i o
    by_cases c : Sp.hintAsk E x i o = 2
    · rw [show Sp.hintsGo E (x :: hs) i o a = 2 from if_pos c] at h; cases h
    · rw [show Sp.hintsGo E (x :: hs) i o a = _ from if_neg c] at h
      obtain ⟨h1, h2⟩ := hintsGo_each hs _ _ _ (by split <;> omega) h
      by_cases c3 : a = 3
      · rw [if_pos c3] at h1; cases h1
      · rw [if_neg c3] at h1
        refine ⟨by omega, fun y hy => ?_⟩
        rcases List.mem_cons.mp hy with q | q
        · rw [q]; exact ⟨i, o, h1⟩
        · exact h2 y q
theorem hints_use [DecidableEq Ob] {E : Sp.Env} {hs : List Ob} (h0 : Sp.hintsAsk E hs = 0) (hw : ∀ h, h ∈ hs → HnW E h) : ∀ h, h ∈ hs → UsH E h := fun h hh hu => by
  obtain ⟨_, h2⟩ := hintsGo_each hs false false 0 (Or.inl rfl) h0
  obtain ⟨i, o, e⟩ := h2 h hh
  unfold Sp.hintAsk at e
  by_cases c : Ob.len h < 1
  · rw [if_pos c] at e; cases e
  rw [if_neg c, if_neg (by rw [hu]; exact Ob.sym_ne (by decide)), if_pos hu] at e
  unfold Sp.useAsk at e
  by_cases c2 : 2 ≤ Ob.len h ∧ Ob.isName (Ob.item h 1) = true
  · rw [if_pos c2] at e
    cases ep : Sp.pairsOf E (Ob.rgt (Ob.rgt h)) with
    | none => rw [ep] at e; cases e
    | some ps =>
      rw [ep] at e
      cases et : E.thmOf (Ob.item h 1) with
      | none => rw [et] at e; cases e
      | some k =>
        refine ⟨⟨rfl, rfl⟩, fun z => ?_, (hw h hh).1, (hw h hh).2⟩
        unfold Sp.pairsOf at ep
        rw [if_pos z] at ep
        cases ep
  · rw [if_neg c2] at e; cases e
theorem UsH.env [DecidableEq Ob] {H : Sp.Hs} {m : List Ob} {h : Ob} (q : UsH (H.env []) h) : UsH (H.env m) h := fun hu => by
  obtain ⟨⟨a1, a2⟩, b, c, d⟩ := q hu
  refine ⟨⟨by rw [pairsOf_env]; exact a1, a2⟩, b, ?_, d⟩
  intro i ps hi hp
  rw [pairsGo_env] at hp
  exact c i ps hi hp
theorem HC_mute [DecidableEq Ob] {u v : iST} {H : Sp.Hs} {m m' : List Ob} (h : HC u H m) (g : CG f80 (fun k => decide (k = 13)) u v) (n : v.1 = u.1) (c : v.2.2 = u.2.2) (r : ∀ k, k ≠ 13 → v.2.1 k = u.2.1 k) (hTo : TOc v (H.1, H.2.1, m')) : HC v H m' := by
  obtain ⟨hT, hD, _, hF, hO, ⟨k0, hk⟩, hM, ⟨a1, a2⟩, hP⟩ := h
  have eo : ∀ k, oc v k = oc u k := fun k => oc_same c k
  refine ⟨g.1, hD.mono hT g (by rw [n]) (fun k hk => r k (by omega)), hTo, fun j hj => ?_, hO, ⟨by rw [n]; exact k0, ?_⟩, ?_, ⟨by rw [n]; exact a1, by rw [n]; exact a2⟩, ?_⟩
  · rw [n] at hj
    rw [r 6 (by decide)]
    obtain ⟨b1, b2, b3⟩ := hF j hj
    exact ⟨⟨b1.1, by rw [n]; exact b1.2⟩, by rw [eo]; exact b2, by rw [eo]; exact b3⟩
  · rw [kdC_same (by rw [n]) (r 14 (by decide))]; exact hk
  · exact hM.same (by rw [n]; exact hM.1.2.1) (by rw [n]) (by rw [n]) (fun k h13 _ => r k h13)
  · unfold PmC at hP ⊢
    rw [r 57 (by decide)]
    exact hP
theorem indAll_ne [DecidableEq Ob] {D : Sp.Dfn} {vs : List Ob} {F : Ob} {us : List Ob} {s s' : Sp.Wk} {cl : List Sp.Cla} {L : List (List (Ob × Bool) × Ob)} (hL : L ≠ []) (h : Sp.indAll D vs F us L s = .ok cl s') : cl ≠ [] := by
  cases L with
  | nil => exact absurd rfl hL
  | cons p L =>
    obtain ⟨_, _, _, h⟩ := bd_ok h
    obtain ⟨_, _, _, h⟩ := bd_ok h
    intro z
    rw [z] at h
    cases h
theorem thmCl_ne [DecidableEq Ob] {E : Sp.Env} {F : Ob} {ind : Option (Sp.Dfn × List Ob)} {us : List (Ob × List (Ob × Ob))} {s s' : Sp.Wk} {cl : List Sp.Cla} (h : Sp.thmCl E F ind us s = .ok cl s') : cl ≠ [] := by
  obtain ⟨_, _, _, h⟩ := bd_ok h
  cases ind with
  | none =>
    obtain ⟨_, _, _, h⟩ := bd_ok h
    intro z
    rw [z] at h
    cases h
  | some p => exact indAll_ne (paths_ne _) h
/-- the clauses of a theorem fit -/
def FitT [DecidableEq Ob] (B : Int) (H : Sp.Hs) (F : Ob) (hs : List Ob) (fuel : Nat) : Prop := Fit (B + cpH hs) (Sp.thmCl (H.env []) F (Sp.indOf (H.env []) hs) (Sp.usesOf (H.env []) hs) (fuel, 0)) ∧ ∀ cl s, Sp.thmCl (H.env []) F (Sp.indOf (H.env []) hs) (Sp.usesOf (H.env []) hs) (fuel, 0) = .ok cl s → FitP (B + cpH hs) (H.env (Sp.offsOf hs)) cl s
theorem rn_thm [DecidableEq Ob] {γ : Int} {a : Int} {fuel k : Nat} {Q : Int → iST → Prop} {v : iST} {H : Sp.Hs} (h : HC v H []) (va : VN v a) (h43 : v.1 43 = (fuel : Int)) (hfu : fuel ≤ 1000) (hA : At3 H (oc v a) v k) (h44 : k = 1 → v.1 44 = -1) (hh0 : Sp.hintsAsk (H.env []) ((Ob.toList (oc v a)).drop (k + 1)) = 0) (hI : InWd v (H.env []) ((Ob.toList (oc v a)).drop (k + 1))) (hna : k = 2 → (H.env []).thmOf (Ob.item (oc v a) 1) = none ∧ H.2.1.length < 60) (hw : nwd false (oc v a) ≤ 1000) (hnp : npr (oc v a) ≤ 100000) (h13 : v.1 13 = 0) (h50 : v.1 50 = 0) (γ0 : 0 ≤ γ) (fit : FitT (v.1 29 + γ + 3100) H (oc v (v.1 45)) ((Ob.toList (oc v a)).drop (k + 1)) fuel) (hq : ∀ ans w r, Sp.Ran H fuel (oc v a) r → RcO γ v w r → Q ans w) : pv_11_run_62 Q a 0 v := by
  obtain ⟨hk, hl, ⟨n45, e45⟩, v47, e47⟩ := hA
  have hk12 : k = 1 ∨ k = 2 := by
    rcases hk with ⟨_, q⟩ | ⟨_, q, _⟩
    · exact Or.inl q
    · exact Or.inr q
  have hlf : Ob.lft (oc v a) = if k = 2 then Ob.defthm else Ob.prove := by
    rcases hk with ⟨q, e⟩ | ⟨q, e, _⟩
    · rw [if_neg (by omega)]; exact q
    · rw [if_pos e]; exact q
  have hnm : k = 2 → NmA v (oc v a) := fun e => by
    rcases hk with ⟨_, q⟩ | ⟨_, _, q⟩
    · omega
    · exact q
  have hmem : ∀ x, x ∈ (Ob.toList (oc v a)).drop (k + 1) → x ∈ Ob.toList (oc v a) := fun x hx => List.mem_of_mem_drop hx
  have hus : ∀ x, x ∈ (Ob.toList (oc v a)).drop (k + 1) → UsH (H.env []) x := hints_use hh0 (fun x hx => hnW_of hw hnp (hmem x hx))
  have nc : Ob.lft (oc v a) ≠ Ob.check := by rw [hlf]; split <;> exact Ob.sym_ne (by decide)
  have ndf : Ob.lft (oc v a) ≠ Ob.defun := by rw [hlf]; split <;> exact Ob.sym_ne (by decide)
  refine rn_62 h h43 (fun y hy bg => ?_)
  obtain ⟨yn, y2, y30, y31, y32⟩ := bg
  have oy : ∀ x, oc y x = oc v x := fun x => oc_same (by rw [y2]) x
  have y29 : y.1 29 = v.1 29 := yn 29 (by omega)
  have y44 : y.1 44 = v.1 44 := yn 44 (by omega)
  have y47 : y.1 47 = v.1 47 := yn 47 (by omega)
  have go : ∀ z, HC z H [] → (∀ k, k ≠ 25 → k ≠ 26 → z.1 k = y.1 k) → z.1 25 = y.1 1 → z.2 = y.2 → z.1 26 = 0 → pv_8_mute (y.1 47) (fun u => rd (u.1 45) (fun v15 => rd (u.1 47) (fun v16 => pv_8_addTheoremClauses v15 v16 (fun u => PrQ Q a (v.1 29) u) u))) z := by
    intro z hz zn z25 z2 z26
    have z22 : z.2 = v.2 := z2.trans y2
    have oz : ∀ x, oc z x = oc v x := fun x => oc_same (by rw [z22]) x
    have z29 : z.1 29 = v.1 29 := by rw [zn 29 (by decide) (by decide)]; exact y29
    have zv : ∀ k, ¬ (25 ≤ k ∧ k ≤ 32) → z.1 k = v.1 k := fun k hk => by rw [zn k (by omega) (by omega), yn k (by omega)]
    have vz : ∀ x, VN v x → VN z x := fun x q => ⟨q.1, by rw [z29]; exact q.2⟩
    rw [y47]
    refine pc_mute (hs := (Ob.toList (oc v a)).drop (k + 1)) hz.1 hz.2.2.1 (NmC.of hz.2.2.1 (HOk.wf hz.2.2.2.2.1.1).2.2.2) (vz _ v47) (by rw [oz]; exact e47) (fun t g tn tc tr hTo => ?_)
    have ht : HC t H (Sp.offsOf ((Ob.toList (oc v a)).drop (k + 1))) := HC_mute hz g tn tc tr hTo
    have ot : ∀ x, oc t x = oc v x := fun x => by rw [oc_same (u := z) (v := t) tc, oz]
    have t29 : t.1 29 = v.1 29 := by rw [tn]; exact z29
    have vt : ∀ x, VN v x → VN t x := fun x q => ⟨q.1, by rw [t29]; exact q.2⟩
    have tv : ∀ k, ¬ (25 ≤ k ∧ k ≤ 32) → t.1 k = v.1 k := fun k hk => by rw [tn]; exact zv k hk
    have t31 : t.1 31 = 0 := by rw [tn, zn 31 (by decide) (by decide)]; exact y31
    have t30 : t.1 30 = (fuel : Int) := by rw [tn, zn 30 (by decide) (by decide)]; exact y30
    have t32 : t.1 32 = 0 := by rw [tn, zn 32 (by decide) (by decide)]; exact y32
    have hst : StS t (fuel, 0) := ⟨by omega, by unfold StC; rw [t31, t30]; show (0 : Int) + (fuel : Int) = (fuel : Int); omega⟩
    intro v15 e15 _ v16 e16 _
    rw [e15, e16, tv 45 (by omega), tv 47 (by omega)]
    have el : Ob.toList (oc t (v.1 47)) = (Ob.toList (oc v a)).drop (k + 1) := by rw [ot]; exact e47
    have hP : PdK_d (v.1 29) 0 f8Xn f8Xr t t (Sp.thmCl (H.env []) (oc v (v.1 45)) (Sp.indOf (H.env []) ((Ob.toList (oc v a)).drop (k + 1))) (Sp.usesOf (H.env []) ((Ob.toList (oc v a)).drop (k + 1))) (fuel, 0)) (Sp.bd (Sp.thmCl (H.env (Sp.offsOf ((Ob.toList (oc v a)).drop (k + 1)))) (oc t (v.1 45)) (Sp.indOf (H.env []) ((Ob.toList (oc v a)).drop (k + 1))) (Sp.usesOf (H.env (Sp.offsOf ((Ob.toList (oc v a)).drop (k + 1)))) (Ob.toList (oc t (v.1 47))))) Sp.ret) := by
      refine ⟨CG.rf ht.1, Or.inl ⟨(fuel, 0), ⟨t32, hst, ?_⟩, ?_⟩⟩
      · rw [t29]
        show v.1 29 ≤ v.1 29 + ((0 : Nat) : Int)
        omega
      · rw [bd_rt, ot, el, usesOf_env (m := Sp.offsOf ((Ob.toList (oc v a)).drop (k + 1)))]
        rfl
    have hI' : IndC t (H.env (Sp.offsOf ((Ob.toList (oc v a)).drop (k + 1)))) (Sp.indOf (H.env []) ((Ob.toList (oc v a)).drop (k + 1))) := by
      rcases hI.c with ⟨q1, q2⟩ | ⟨D, vs, q1, q2, q3, q4, q5⟩
      · exact Or.inl ⟨by rw [tv 36 (by omega)]; exact q1, q2⟩
      · exact Or.inr ⟨D, vs, q1, by rw [tv 36 (by omega)]; exact vt _ q2, by rw [tv 36 (by omega), ot]; exact q3, q4, q5⟩
    have ht' := ht
    obtain ⟨hT, hD, hTo', hF, hO, _, _, ⟨h37, _⟩, _⟩ := ht'
    refine pc_addTheoremClauses (E := H.env (Sp.offsOf ((Ob.toList (oc v a)).drop (k + 1)))) hP (fun _ q => q) (fun _ q => q) (by rw [el]; exact fit.1.le (by omega)) (fun x s => Nat.le_refl _) (arOf_sym (fun D hD => ((HOk.wf hO.1).1 D hD).1)) hD hTo' (HWf.dwf (HOk.wf hO.1)) (fun D hD => ((HOk.wf hO.1).1 D hD).2.2.1.2.1) hF h37 (vt _ v47) (fun x hx => UsH.env (hus x (by rw [← el]; exact hx))) ⟨vt _ n45.1, by rw [ot]; exact n45.2.1, by rw [ot]; exact n45.2.2⟩ hI' (by rw [tv 13 (by omega)]; exact h13) t32 (fun w g2 hlive hdead => ?_)
    rw [el] at hlive hdead
    have hw' := ht.X g2
    have vw := (vt a va).up g2
    have ow : ∀ x, VN v x → oc w x = oc v x := fun x q => by rw [g2.oc ht.1 (vt x q).1 (vt x q).2, ot]
    have w30 : w.1 30 = (fuel : Int) := by rw [g2.2.2.1 30 (by decide)]; exact t30
    have wv : w.1 42 = v.1 42 ∧ w.1 43 = v.1 43 ∧ w.1 3 ≤ v.1 29 := ⟨by rw [g2.2.2.1 42 (by decide), tv 42 (by omega)], by rw [g2.2.2.1 43 (by decide), tv 43 (by omega)], by rw [g2.2.2.1 3 (by decide), tv 3 (by omega)]; exact h.2.2.2.2.2.2.1.1.2.1⟩
    have w45 : w.2.1 45 = v.2.1 45 := by rw [g2.2.2.2 45 (by decide), tr 45 (by decide), z22]
    have w50 : w.1 50 = 0 := by rw [g2.2.2.1 50 (by decide), tv 50 (by omega)]; exact h50
    have f3 : Ob.lft (oc w a) ≠ Ob.check := by rw [ow a va]; exact nc
    have room : ¬ (Sp.hintsAsk (H.env []) ((Ob.toList (oc v a)).drop (k + 1)) = 3 ∨ k = 2 ∧ ((Sp.Env.thmOf (H.env []) (Ob.item (oc v a) 1)).isSome = true ∨ H.2.1.length = 60)) := by
      rintro (q | ⟨q, q2⟩)
      · rw [hh0] at q; cases q
      · obtain ⟨h1, h2⟩ := hna q
        rcases q2 with q2 | q2
        · rw [h1] at q2; cases q2
        · omega
    have ran : ∀ r, Sp.Proves (H.env (Sp.offsOf ((Ob.toList (oc v a)).drop (k + 1)))) H (if k = 2 then Sp.addThm H (Ob.item (oc v a) 1) (oc v (v.1 45)) 2 else H) fuel (Sp.thmCl (H.env []) (oc v (v.1 45)) (Sp.indOf (H.env []) ((Ob.toList (oc v a)).drop (k + 1))) (Sp.usesOf (H.env []) ((Ob.toList (oc v a)).drop (k + 1)))) r → Sp.Ran H fuel (oc v a) r := fun r hr => by
      have q := (RanT_3 (r := r) (fuel := fuel) ⟨hl, fun e => (hnm e).2.2, by rw [hh0]; decide⟩ e45).2 room hr
      rcases hk with ⟨q1, q2⟩ | ⟨q1, q2, _⟩
      · rw [q2] at q; exact Ran_prove q1 q
      · rw [q2] at q; exact Ran_defthm q1 q
    by_cases w32 : w.1 32 = 0
    · obtain ⟨cl, s, hG, hc, hlv, eR⟩ := hlive w32
      have eR : Sp.thmCl (H.env []) (oc v (v.1 45)) (Sp.indOf (H.env []) ((Ob.toList (oc v a)).drop (k + 1))) (Sp.usesOf (H.env []) ((Ob.toList (oc v a)).drop (k + 1))) (fuel, 0) = .ok cl s := eR
      have hne := thmCl_ne eR
      have ran' : ∀ l s' r, Sp.PvEnd (H.env (Sp.offsOf ((Ob.toList (oc v a)).drop (k + 1)))) (cl, [], s) (l, s') → r = (match l with | none => (H, (fuel : Int) - (s'.1 : Int), 0, false) | some [] => ((if k = 2 then Sp.addThm H (Ob.item (oc v a) 1) (oc v (v.1 45)) 2 else H), (fuel : Int) - (s'.1 : Int), 0, true) | some (a :: l) => (H, (fuel : Int) - (s'.1 : Int), (a :: l).length, false)) → Sp.Ran H fuel (oc v a) r := fun l s' r he hr => by
        refine ran r ?_
        unfold Sp.Proves
        rw [eR]
        exact ⟨l, s', he, hr⟩
      refine rn_prv (v := v) hw' (by rw [g2.2.2.1 25 (by decide), g2.2.2.1 1 (by decide), tn, z25, zn 1 (by decide) (by decide)]) vw f3 hlv w30 hfu hG hc γ0 (by have q := fit.2 cl s eR; rw [show v.1 29 + cpH ((Ob.toList (oc v a)).drop (k + 1)) + γ + 3100 = v.1 29 + γ + 3100 + cpH ((Ob.toList (oc v a)).drop (k + 1)) by omega]; exact q) w45 wv w50 (by rw [g2.2.2.1 26 (by decide), tn]; exact z26) (fun s' x0 t' he gx ht' tn' t2' t48 t15 t32' t9 hng => ?_) (fun ans w' l s' he hnl hr => hq ans w' _ (ran' l s' _ he ?_) hr)
      · have tw : ∀ k, f8Qn k = false → k ≠ 48 → k ≠ 49 → t'.1 k = w.1 k := fun k hk a b => by rw [tn' k a b, gx.2.2.1 k hk]
        have t29' : w.1 29 ≤ t'.1 29 := by rw [tn' 29 (by decide) (by decide)]; exact gx.le
        have le29 : v.1 29 ≤ w.1 29 := by have := g2.le; omega
        have tvn : ∀ x, VN v x → VN t' x := fun x q => ⟨q.1, by have := q.2; omega⟩
        have ot' : ∀ x, VN v x → oc t' x = oc v x := fun x q => by
          have vw' := (vt x q).up g2
          rw [oc_same (u := x0) (v := t') (by rw [t2']), gx.oc hw'.1 vw'.1 vw'.2, ow x q]
        have t44 : t'.1 44 = v.1 44 := by rw [tw 44 (by decide) (by decide) (by decide), g2.2.2.1 44 (by decide), tv 44 (by omega)]
        have t45 : t'.1 45 = v.1 45 := by rw [tw 45 (by decide) (by decide) (by decide), g2.2.2.1 45 (by decide), tv 45 (by omega)]
        have t13 : t'.1 13 = (cl.length : Int) := by rw [tw 13 (by decide) (by decide) (by decide)]; exact hG.1
        have b50 : ∀ w' : iST, (w'.1 50 = 0 ↔ t'.1 13 ≤ 0) → bq (w'.1 50) true := fun w' q => by
          refine ⟨fun z => ?_, fun z => by cases z⟩
          have := q.mp z
          rw [t13] at this
          exact absurd (List.eq_nil_of_length_eq_zero (by omega)) hne
        rcases hk12 with c1 | c2
        · refine cc_plain ht' (tvn a va) (by rw [ot' a va]; exact ndf) (by rw [ot' a va, hlf, if_neg (by omega)]; exact Ob.sym_ne (by decide)) (by rw [ot' a va]; exact nc) t32' t15 (fun w' hw2 w50' wn w2 => hq 0 w' _ (ran' (some []) s' _ he rfl) ⟨⟨Sp.offsOf ((Ob.toList (oc v a)).drop (k + 1)), ?_⟩, ?_, ?_, b50 w' w50', ⟨?_, ?_, ?_, by rw [wn 29 (by decide)]; exact t9⟩, ?_, fun _ => ⟨hng.keep ht'.1 hw2.1 ⟨by rw [wn 29 (by decide)]; exact Int.le_refl _, fun k _ _ => by rw [w2]⟩ (wn 13 (by decide)) (wn 26 (by decide)) (fun k _ => by rw [w2]) (BkP.of ⟨wn 0 (by decide), wn 1 (by decide), wn 25 (by decide)⟩ (fun k _ => by rw [w2]) hw2.2.1.2.2), rfl⟩⟩)
          · show HC w' (if k = 2 then _ else H) _
            rw [if_neg (by omega)]
            exact hw2
          · show w'.1 48 = _
            rw [wn 48 (by decide)]; exact t48
          · show w'.1 15 = 0
            rw [wn 15 (by decide)]; exact t15
          · rw [wn 42 (by decide), tw 42 (by decide) (by decide) (by decide)]; exact wv.1
          · rw [wn 43 (by decide), tw 43 (by decide) (by decide) (by decide)]; exact wv.2.1
          · rw [wn 3 (by decide), tw 3 (by decide) (by decide) (by decide)]; exact wv.2.2
          · rw [w2, t2', gx.2.2.2 45 (by decide)]; exact w45
        · have hN := hnm c2
          obtain ⟨ha1, ha2⟩ := hna c2
          have hO2 : Sp.HOk (Sp.addThm H (Ob.item (oc v a) 1) (oc v (v.1 45)) 2) := addThm_ok h.2.2.2.2.1.1 (by decide) hN.2.2 e45 ha1
          refine cc_dthm ht' (tvn a va) (by rw [ot' a va, hlf, if_pos c2]) t32' t15 (by rw [t44, t45, ot' _ hN.1, ot' _ n45.1, hN.2.1]; exact hO2) ha2 ?_ (by omega) (by rw [t44]; exact ⟨tvn _ hN.1, hN.1.2⟩) (by rw [t45]; exact ⟨tvn _ n45.1, by rw [ot' _ n45.1]; exact n45.2.1, by rw [ot' _ n45.1]; exact n45.2.2⟩) (by rw [t45]; exact n45.1.2) (fun w' m' hw2 w50' wn' wr wE wB => hq 0 w' _ (ran' (some []) s' _ he rfl) ⟨⟨m', ?_⟩, ?_, ?_, b50 w' w50', ⟨?_, ?_, ?_, by rw [wn'.2 29 (by decide) (by decide) (by decide)]; exact t9⟩, ?_, fun _ => ⟨hng.keep ht'.1 hw2.1 wE (wn'.2 13 (by decide) (by decide) (by decide)) (wn'.2 26 (by decide) (by decide) (by decide)) (fun k hk => wr k (by unfold f8Tr; simp only [Bool.or_eq_false_iff, decide_eq_false_iff_not]; omega)) wB, rfl⟩⟩)
          · rw [tw 3 (by decide) (by decide) (by decide), g2.2.2.1 3 (by decide), tv 3 (by omega)]; exact h.2.2.2.2.2.2.1.1.2.1
          · show HC w' (if k = 2 then _ else H) _
            rw [if_pos c2]
            rw [t44, t45, ot' _ hN.1, ot' _ n45.1, hN.2.1] at hw2
            exact hw2
          · show w'.1 48 = _
            rw [wn'.2 48 (by decide) (by decide) (by decide)]; exact t48
          · show w'.1 15 = 0
            rw [wn'.2 15 (by decide) (by decide) (by decide)]; exact t15
          · rw [wn'.2 42 (by decide) (by decide) (by decide), tw 42 (by decide) (by decide) (by decide)]; exact wv.1
          · rw [wn'.2 43 (by decide) (by decide) (by decide), tw 43 (by decide) (by decide) (by decide)]; exact wv.2.1
          · rw [wn'.1]; exact Int.le_refl _
          · rw [wr 45 (by decide), t2', gx.2.2.2 45 (by decide)]; exact w45
      · cases l with
        | none => rfl
        | some ls =>
          cases ls with
          | nil => exact absurd rfl hnl
          | cons _ _ => rfl
    · obtain ⟨s, hd', eR⟩ := hdead w32
      have hsc : w.1 31 + (s.1 : Int) = w.1 30 := hd'.2.1.2
      have f9 := fit.1
      unfold Fit at f9
      rw [eR] at f9
      have f9 : v.1 29 + γ + 3100 + cpH ((Ob.toList (oc v a)).drop (k + 1)) + (s.2 : Int) ≤ 160000 := f9
      have l9 := hd'.2.2
      unfold PrQ
      intro v10 e10 _
      refine ⟨fun _ => ?_, fun q => absurd (show v10 ≠ 0 by rw [e10]; exact w32) q⟩
      refine rn_failS (v := v) (st := (fuel : Int) - (s.1 : Int)) hw' vw w45 wv f3 w50 (by omega) w32 (by omega) (fun w' hw2 => hq 4 w' _ (ran _ ?_) hw2)
      unfold Sp.Proves
      rw [eR]
  rcases hk12 with c1 | c2
  · refine rn_prep (c := 19) hy ⟨va.1, by rw [y29]; exact va.2⟩ (Or.inl (by rw [y44]; exact h44 c1)) (by decide) (by decide) rfl (by rw [oy, hlf, if_neg (by omega)]) (fun z hz zn z25 z2 z26 => ⟨(fun q => by cases q), (fun q => by cases q), fun _ => go z hz zn z25 z2 z26, (fun q => by cases q), (fun q => by cases q)⟩)
  · have hN := hnm c2
    refine rn_prep (c := 21) hy ⟨va.1, by rw [y29]; exact va.2⟩ (Or.inr (by rw [y44]; exact ⟨hN.1.1, by rw [y29]; exact hN.1.2⟩)) (by decide) (by decide) rfl (by rw [oy, hlf, if_pos c2]) (fun z hz zn z25 z2 z26 => ⟨(fun q => by cases q), (fun q => by cases q), fun _ => go z hz zn z25 z2 z26, (fun q => by cases q), (fun q => by cases q)⟩)
