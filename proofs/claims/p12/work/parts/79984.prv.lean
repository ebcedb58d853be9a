-- deps: 79983
/-! the class: what is given is proved, and what comes of it -/
def FitP [DecidableEq Ob] (B : Int) (E : Sp.Env) (cl : List Sp.Cla) (s : Sp.Wk) : Prop := (∀ c ws ls s', PvR E (cl, [], s) (c :: ws, ls, s') → Fit (B + 16) (Sp.roundGo E c.2 31 [] c.1 false s')) ∧ ∀ l s', Sp.PvEnd E (cl, [], s) (l, s') → B + (s'.2 : Int) + 620 ≤ 160000
theorem pvStep_20 [DecidableEq Ob] {E : Sp.Env} {p q : Sp.Pv} (h : p.2.1.length ≤ 20) (e : Sp.pvStep E p = .inl q) : q.2.1.length ≤ 20 := by
  obtain ⟨ws, ls, s⟩ := p
  have h : ls.length ≤ 20 := h
  cases ws with
  | nil => cases e
  | cons c ws =>
    by_cases c20 : 20 ≤ ls.length
    · rw [pv_full c20] at e; cases e
    · have l1 : ∀ d : Sp.Cla, (ls ++ [d]).length ≤ 20 := fun d => by rw [List.length_append]; show ls.length + 1 ≤ 20; omega
      cases hp : Sp.plainC c.1 with
      | true => rw [pv_plain c20 hp] at e; cases e; exact h
      | false =>
        by_cases h6 : c.2 = 6
        · rw [pv_leave c20 hp h6] at e; cases e; exact l1 c
        · rw [pv_round c20 hp h6] at e
          split at e
          · cases e; exact h
          · cases e; exact h
          · cases e; exact l1 _
          · cases e; exact h
          · cases e
theorem pvRun_20 [DecidableEq Ob] {E : Sp.Env} {ls : List Sp.Cla} {s : Sp.Wk} : ∀ (n : Nat) (p : Sp.Pv), p.2.1.length ≤ 20 → Sp.pvRun E n p = some (some ls, s) → ls.length ≤ 20
  | 0, _, _, h => by cases h
  | n + 1, p, hp, h => by
    have h : (match Sp.pvStep E p with | .inl q => Sp.pvRun E n q | .inr r => some r) = some (some ls, s) := h
    cases e : Sp.pvStep E p with
    | inl q => rw [e] at h; exact pvRun_20 n q (pvStep_20 hp e) h
    | inr r =>
      rw [e] at h
      have h : r = (some ls, s) := Option.some.inj h
      rw [h] at e
      obtain ⟨ws, l0, s0⟩ := p
      have hp : l0.length ≤ 20 := hp
      cases ws with
      | nil =>
        have e : (Sum.inr (some l0, s0) : Sp.Pv ⊕ (Option (List Sp.Cla) × Sp.Wk)) = Sum.inr (some ls, s) := e
        cases e; exact hp
      | cons c ws =>
        by_cases c20 : 20 ≤ l0.length
        · rw [pv_full c20] at e; cases e; exact hp
        · cases hpl : Sp.plainC c.1 with
          | true => rw [pv_plain c20 hpl] at e; cases e
          | false =>
            by_cases h6 : c.2 = 6
            · rw [pv_leave c20 hpl h6] at e; cases e
            · rw [pv_round c20 hpl h6] at e
              split at e <;> cases e
theorem lenS_le [DecidableEq Ob] : ∀ ls : List Sp.Cla, (∀ d, d ∈ ls → (d.1.length : Int) ≤ 30) → lenS ls ≤ 31 * (ls.length : Int)
  | [], _ => Int.le_refl _
  | d :: l, h => by
    have h1 := h d List.mem_cons_self
    have h2 := lenS_le l (fun x hx => h x (List.mem_cons_of_mem _ hx))
    show (d.1.length : Int) + 1 + lenS l ≤ 31 * ((l.length + 1 : Nat) : Int)
    omega
theorem clC_len' [DecidableEq Ob] {u : iST} {c : Int} (h : 0 ≤ u.2.1 46 c) : ((clC u c).length : Int) = u.2.1 46 c := by
  rw [clC_len]
  omega
theorem LfOC_len [DecidableEq Ob] {u : iST} {E : Sp.Env} {ls : List Sp.Cla} (h : LfOC u E ls) (hl : ls.length ≤ 20) : lenS ls ≤ 620 := by
  have := lenS_le ls (fun d hd => by
    obtain ⟨i, hi, e⟩ := List.getElem_of_mem hd
    have q := h.2 i d (by rw [List.getElem?_eq_getElem hi, e])
    rw [← q.2.1, clC_len' q.1.1.1]
    exact q.1.1.2)
  omega
theorem HC.Qm [DecidableEq Ob] {u v : iST} {H : Sp.Hs} {m : List Ob} (h : HC u H m) (g : CG f8Qn f8Pr u v) : HC v H m := h.keep g (fun k hk => g.2.2.1 k (by unfold f8Qn f8Pn f8Jn; simp only [Bool.or_eq_false_iff, decide_eq_false_iff_not]; omega)) (fun k hk => g.2.2.2 k (by unfold f8Pr f8Jr f8C; simp only [Bool.or_eq_false_iff, decide_eq_false_iff_not]; omega))
theorem rn_prv [DecidableEq Ob] {γ : Int} {a mk B : Int} {fuel : Nat} {Q : Int → iST → Prop} {v z : iST} {H : Sp.Hs} {m : List Ob} {cl : List Sp.Cla} {s0 : Sp.Wk} (hz : HC z H m) (h25 : z.1 25 = z.1 1) (va : VN z a) (f3 : Ob.lft (oc z a) ≠ Ob.check) (hl : Lv B z s0) (h30 : z.1 30 = (fuel : Int)) (hfu : fuel ≤ 1000) (hG : GvB z (H.env m) cl) (hc : cl.length ≤ 120) (γ0 : 0 ≤ γ) (fit : FitP (B + γ + 3100) (H.env m) cl s0) (z45 : z.2.1 45 = v.2.1 45) (zv : z.1 42 = v.1 42 ∧ z.1 43 = v.1 43 ∧ z.1 3 ≤ v.1 29) (h50 : z.1 50 = 0) (h26 : z.1 26 = 0)
    (good : ∀ s' x y, Sp.PvEnd (H.env m) (cl, [], s0) (some [], s') → CG f8Qn f8Pr z x → HC y H m → (∀ k, k ≠ 48 → k ≠ 49 → y.1 k = x.1 k) → y.2 = x.2 → y.1 48 = (fuel : Int) - (s'.1 : Int) → y.1 15 = 0 → y.1 32 = 0 → y.1 29 + γ ≤ 160000 → NgI y → pv_11_conclude a mk Q y)
    (bad : ∀ ans w l s', Sp.PvEnd (H.env m) (cl, [], s0) (l, s') → l ≠ some [] → RcO γ v w (H, (fuel : Int) - (s'.1 : Int), (match l with | none => 0 | some ls => ls.length), false) → Q ans w) : PrQ Q a mk z := by
  unfold PrQ
  intro v10 e10 _
  refine ⟨fun q => absurd (e10.trans hl.1) q, fun _ => ?_⟩
  have hg := hG.giv hc cl.length (Nat.le_refl _)
  rw [Nat.sub_self] at hg
  refine pc_prove hz.1 (hz.env h25) hl (by rw [h30]; omega) ⟨by rw [h26]; exact Int.le_refl _, by rw [h26]; exact hl.2.1.1⟩ (NtG.none h26) hg (fun c ws ls s hR => (fit.1 c ws ls s hR).le (by omega)) (fun w r g o he hr hng => ?_)
  obtain ⟨l, s'⟩ := r
  have f9 := fit.2 l s' he
  have hw := hz.Qm g
  have w30 : w.1 30 = (fuel : Int) := by rw [g.2.2.1 30 (by decide)]; exact h30
  have vw := va.up g
  have ow : oc w a = oc z a := g.oc hz.1 va.1 va.2
  have w45 : w.2.1 45 = v.2.1 45 := by rw [g.2.2.2 45 (by decide)]; exact z45
  have wv : w.1 42 = v.1 42 ∧ w.1 43 = v.1 43 ∧ w.1 3 ≤ v.1 29 := ⟨by rw [g.2.2.1 42 (by decide)]; exact zv.1, by rw [g.2.2.1 43 (by decide)]; exact zv.2.1, by rw [g.2.2.1 3 (by decide)]; exact zv.2.2⟩
  have w50 : w.1 50 = 0 := by rw [g.2.2.1 50 (by decide)]; exact h50
  cases l with
  | none =>
    have hd : Dd_d B 2000 w s' := hr
    have hsc : w.1 31 + (s'.1 : Int) = w.1 30 := hd.2.1.2
    have l9 := hd.2.2
    exact rn_failS (v := v) (st := (fuel : Int) - (s'.1 : Int)) hw vw w45 wv (by rw [ow]; exact f3) w50 (by omega) hd.1 (by omega) (fun w' hw' => bad 4 w' none s' he (fun q => by cases q) hw')
  | some ls =>
    obtain ⟨hlw, hL⟩ := (show Lv B w s' ∧ LfOC w (H.env m) ls from hr)
    have hsc : w.1 31 + (s'.1 : Int) = w.1 30 := hlw.2.1.2
    refine rn_111 hw.1 vw (by rw [ow]; exact f3) (rn_140 hw (fun y hy yn y48 y2 => ?_))
    have y32 : y.1 32 = 0 := by rw [yn 32 (by decide) (by decide)]; exact hlw.1
    have y48' : y.1 48 = (fuel : Int) - (s'.1 : Int) := by rw [y48]; omega
    by_cases c : ls = []
    · rw [c] at he hL hng
      obtain ⟨mm, tr, hpt, hnt, hgn⟩ := hng rfl
      rw [h26] at hnt
      have ngw : NgI w := ⟨H.env m, mm, cl, tr, GivC.ot hz.1 g (o hlw.1) (g.2.2.1 13 (by decide)) (fun j hj => hj) cl 0 hg, hpt, hnt, hgn, EnvZ.same ⟨(hz.env h25).1.z, (hz.env h25).2.1, (hz.env h25).2.2.1, (hz.env h25).2.2.2.1.z (hz.env h25).2.2.2.2.1⟩ hz.1 g.1 g.2.1 ⟨g.2.2.1 0 (by decide), g.2.2.1 1 (by decide), g.2.2.1 25 (by decide)⟩ (fun k hk => g.2.2.2 k (by unfold f8Pr f8Jr f8C; simp only [Bool.or_eq_false_iff, decide_eq_false_iff_not]; omega))⟩
      refine good s' w y he g hy yn y2 y48' ?_ y32 (by rw [yn 29 (by decide) (by decide)]; have l9 := hlw.2.2; omega) (ngw.keep hw.1 hy.1 ⟨by rw [yn 29 (by decide) (by decide)]; exact Int.le_refl _, fun k _ _ => by rw [y2]⟩ (yn 13 (by decide) (by decide)) (yn 26 (by decide) (by decide)) (fun k _ => by rw [y2]) (BkP.of ⟨yn 0 (by decide) (by decide), yn 1 (by decide) (by decide), yn 25 (by decide) (by decide)⟩ (fun k _ => by rw [y2]) hy.2.1.2.2))
      rw [yn 15 (by decide) (by decide)]
      exact hL.1
    · obtain ⟨nn, hn⟩ := he
      have l20 := pvRun_20 nn (cl, [], s0) (Nat.zero_le _) hn
      have f2 := fit.2 (some ls) s' ⟨nn, hn⟩
      have hLy : LfOC y (H.env m) ls := by
        refine hL.ot (P := fun _ => True) (n := fun k => decide (48 ≤ k ∧ k ≤ 49)) (r := f80) hw.1 ⟨hy.1, ⟨by rw [yn 29 (by decide) (by decide)]; exact Int.le_refl _, fun k _ _ => by rw [y2]⟩, ⟨fun k hk => yn k (fun q => of_decide_eq_false hk (by omega)) (fun q => of_decide_eq_false hk (by omega)), fun k _ => by rw [y2]⟩⟩ (OtC.of (fun k _ _ => by rw [y2])) (yn 15 (by decide) (by decide)) (fun _ _ _ => trivial)
      have ll := LfOC_len hLy l20
      refine cc_left hy hLy c y32 ?_ (fun ans w' hw' wn wr w9 => bad ans w' (some ls) s' ⟨nn, hn⟩ (fun q => c (Option.some.inj q)) ⟨⟨m, hw'⟩, ?_, ?_, ?_, ⟨?_, ?_, ?_, by have l9 := hlw.2.2; rw [yn 29 (by decide) (by decide)] at w9; omega⟩, ?_, fun q => by cases q⟩)
      · rw [yn 29 (by decide) (by decide)]
        have := hlw.2.2
        omega
      · show w'.1 48 = _
        rw [wn 48 (by decide)]; exact y48'
      · show w'.1 15 = _
        rw [wn 15 (by decide)]; exact hLy.1
      · rw [wn 50 (by decide), yn 50 (by decide) (by decide), w50]; exact bq0 rfl
      · rw [wn 42 (by decide), yn 42 (by decide) (by decide)]; exact wv.1
      · rw [wn 43 (by decide), yn 43 (by decide) (by decide)]; exact wv.2.1
      · rw [wn 3 (by decide), yn 3 (by decide) (by decide)]; exact wv.2.2
      · rw [wr 45 (by decide) (by decide), y2]; exact w45
