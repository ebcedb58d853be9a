-- deps: 7993
/-! the class: how a run begins its work and ends it -/
def PrQ [DecidableEq Ob] (Q : Int → iST → Prop) (a mk : Int) : iST → Prop := fun u => rd (u.1 32) (fun v10 => br (v10 ≠ 0) (pv_11_run_111 Q a mk u) (pv_4_prove 0 (fun u => pv_11_run_111 Q a mk u) u))
def BgO [DecidableEq Ob] (v y : iST) (fuel : Int) : Prop := (∀ k, ¬ (30 ≤ k ∧ k ≤ 32) → y.1 k = v.1 k) ∧ y.2 = v.2 ∧ y.1 30 = fuel ∧ y.1 31 = 0 ∧ y.1 32 = 0
theorem rn_62 [DecidableEq Ob] {a fuel : Int} {Q : Int → iST → Prop} {v : iST} {H : Sp.Hs} {m : List Ob} (h : HC v H m) (h43 : v.1 43 = fuel) (hq : ∀ y, HC y H m → BgO v y fuel → pv_11_prepare a (PrQ Q a (v.1 29)) y) : pv_11_run_62 Q a 0 v := by
  unfold pv_11_run_62
  refine ⟨fun _ => ?_, fun z => absurd rfl z⟩
  intro v6 e6 _ v7 e7 _
  rw [e6]
  unfold pv_7_begin
  intro y1 e1 y2 e2 y3 e3
  have g1 : CG (fun k => decide (30 ≤ k ∧ k ≤ 32)) f80 v y1 := by rw [e1]; exact CG_I h.1 (by decide) (by decide)
  have g2 : CG (fun k => decide (30 ≤ k ∧ k ≤ 32)) f80 y1 y2 := by rw [e2]; exact CG_I g1.1 (by decide) (by decide)
  have g3 : CG (fun k => decide (30 ≤ k ∧ k ≤ 32)) f80 y2 y3 := by rw [e3]; exact CG_I g2.1 (by decide) (by decide)
  have g := (g1.tr g2).tr g3
  have n : ∀ k, ¬ (30 ≤ k ∧ k ≤ 32) → y3.1 k = v.1 k := fun k hk => g.2.2.1 k (decide_eq_false hk)
  refine hq y3 (h.keep g (fun k hk => n k (by omega)) (fun k _ => g.2.2.2 k rfl)) ⟨n, by rw [e3, e2, e1]; rfl, ?_, ?_, ?_⟩
  · rw [e3, iIc_ne _ _ (by decide), e2, iIc_ne _ _ (by decide), e1, iIc_at, e7]; exact h43
  · rw [e3, iIc_ne _ _ (by decide), e2, iIc_at]
  · rw [e3, iIc_at]
theorem rn_140 [DecidableEq Ob] {a mk : Int} {Q : Int → iST → Prop} {x : iST} {H : Sp.Hs} {m : List Ob} (h : HC x H m) (hq : ∀ y, HC y H m → (∀ k, k ≠ 48 → k ≠ 49 → y.1 k = x.1 k) → y.1 48 = x.1 31 → y.2 = x.2 → pv_11_conclude a mk Q y) : pv_11_run_140 Q a mk x := by
  unfold pv_11_run_140
  intro v12 e12 _ y1 e1 v13 e13 _ y2 e2
  have h1 : HC y1 H m := by rw [e1]; exact h.i (by decide)
  have h2 : HC y2 H m := by rw [e2]; exact h1.i (by decide)
  refine hq y2 h2 (fun k a b => by rw [e2, iIc_ne _ _ b, e1, iIc_ne _ _ a]) ?_ (by rw [e2, e1]; rfl)
  rw [e2, iIc_ne _ _ (by decide), e1, iIc_at, e12]
/-- what is no PROOF goes to its end -/
theorem rn_111 [DecidableEq Ob] {a mk : Int} {Q : Int → iST → Prop} {x : iST} (hT : CT x) (va : VN x a) (hf : Ob.lft (oc x a) ≠ Ob.check) (hq : pv_11_run_140 Q a mk x) : pv_11_run_111 Q a mk x := by
  unfold pv_11_run_111
  refine pc_left hT va (fun f vf ef => ?_)
  have kc := katC hT 22 (o := Ob.check) (by decide) (by decide) rfl vf.1 vf.2
  rw [ef] at kc
  exact ⟨fun _ => hq, fun z => absurd (fun c => hf (kc.mp c)) z⟩
/-- what a run leaves -/
def RcO [DecidableEq Ob] (γ : Int) (v w : iST) (r : Sp.Res) : Prop := (∃ m, HC w r.1 m) ∧ w.1 48 = r.2.1 ∧ w.1 15 = (r.2.2.1 : Int) ∧ bq (w.1 50) r.2.2.2 ∧ (w.1 42 = v.1 42 ∧ w.1 43 = v.1 43 ∧ w.1 3 ≤ v.1 29 ∧ w.1 29 + γ ≤ 160000) ∧ w.2.1 45 = v.2.1 45 ∧ (r.2.2.2 = true → NgI w ∧ r.2.2.1 = 0)
/-- a command with no work at all: undo, on, off, a definition without a measure -/
theorem rn_none [DecidableEq Ob] {a mk : Int} {Q : Int → iST → Prop} {x : iST} {H : Sp.Hs} {m : List Ob} (h : HC x H m) (h13 : x.1 13 = 0) (h32 : x.1 32 = 0) (hq : ∀ y, HC y H m → (∀ k, k ≠ 15 → k ≠ 16 → y.1 k = x.1 k) → y.1 15 = 0 → y.2 = x.2 → pv_11_run_111 Q a mk y) : PrQ Q a mk x := by
  unfold PrQ
  intro v10 e10 _
  refine ⟨fun z => absurd (e10.trans h32) z, fun _ => ?_⟩
  refine pc_prove0 h.1 h13 (fun y g y2 yn y15 => hq y (h.keep g (fun k hk => yn k (by omega) (by omega)) (fun k _ => by rw [y2])) yn y15 y2)
