-- deps: 79982
/-! the class: eval -/
theorem HC.E [DecidableEq Ob] {u v : iST} {H : Sp.Hs} {m : List Ob} (h : HC u H m) (g : CG f8En f8Er u v) : HC v H m := h.keep g (fun k hk => g.2.2.1 k (by unfold f8En; simp only [Bool.or_eq_false_iff, decide_eq_false_iff_not]; omega)) (fun k hk => g.2.2.2 k (by unfold f8Er; simp only [Bool.or_eq_false_iff, decide_eq_false_iff_not]; omega))
theorem HC.T [DecidableEq Ob] {u v : iST} {H : Sp.Hs} {m : List Ob} (h : HC u H m) (g : CG f8T f80 u v) : HC v H m := h.keep g (fun k hk => g.2.2.1 k (by unfold f8T; exact decide_eq_false (by omega))) (fun k hk => g.2.2.2 k rfl)
theorem fitE_le [DecidableEq Ob] {B B' : Int} {R : EStateM.Result Int Sp.Ek Ob} (h : FitE B' R) (hb : B ≤ B') : FitE B R := by
  unfold FitE at h ⊢
  omega
theorem rn_eval [DecidableEq Ob] {γ : Int} {a : Int} {fuel : Nat} {Q : Int → iST → Prop} {v : iST} {H : Sp.Hs} (h : HC v H []) (va : VN v a) (h43 : v.1 43 = (fuel : Int)) (hfu : fuel ≤ 1000) (hA : At1 H (oc v a) v) (h44 : v.1 44 = -1) (h13 : v.1 13 = 0) (h50 : v.1 50 = 0) (γ0 : 0 ≤ γ) (fit : FitE (v.1 29 + γ + 3100) (Sp.ev (H.env []) 300 (fun x => x) (oc v (v.1 45)) (fuel, 1000000, 0))) (hq : ∀ ans w r, Sp.Ran H fuel (oc v a) r → RcO γ v w r → Q ans w) : pv_11_run_62 Q a 0 v := by
  obtain ⟨ho, hl, ⟨n45, e45⟩, hnv⟩ := hA
  refine rn_62 h h43 (fun y hy bg => ?_)
  obtain ⟨yn, y2, y30, y31, y32⟩ := bg
  have oy : ∀ x, oc y x = oc v x := fun x => oc_same (by rw [y2]) x
  have y29 : y.1 29 = v.1 29 := yn 29 (by omega)
  have y45 : y.1 45 = v.1 45 := yn 45 (by omega)
  refine rn_prep (c := 17) hy ⟨va.1, by rw [y29]; exact va.2⟩ (Or.inl (by rw [yn 44 (by omega)]; exact h44)) (by decide) (by decide) rfl (by rw [oy]; exact ho) (fun z hz zn z25 z2 z26 => ⟨fun _ => ?_, (fun q => by cases q), (fun q => by omega), (fun q => by cases q), (fun q => by cases q)⟩)
  have z22 : z.2 = v.2 := z2.trans y2
  have oz : ∀ x, oc z x = oc v x := fun x => oc_same (by rw [z22]) x
  have z29 : z.1 29 = v.1 29 := by rw [zn 29 (by decide) (by decide)]; exact y29
  have zv : ∀ k, ¬ (25 ≤ k ∧ k ≤ 32) → z.1 k = v.1 k := fun k hk => by rw [zn k (by omega) (by omega), yn k (by omega)]
  have vz45 : VN z (v.1 45) := ⟨n45.1.1, by rw [z29]; exact n45.1.2⟩
  rw [y45]
  have z31 : z.1 31 = 0 := by rw [zn 31 (by decide) (by decide)]; exact y31
  have z30 : z.1 30 = (fuel : Int) := by rw [zn 30 (by decide) (by decide)]; exact y30
  have z32 : z.1 32 = 0 := by rw [zn 32 (by decide) (by decide)]; exact y32
  have vz : VN z a := ⟨va.1, by rw [z29]; exact va.2⟩
  have rows : ∀ w, CG f8En f8Er z w → w.2.1 45 = v.2.1 45 := fun w g => by rw [g.2.2.2 45 (by decide), z22]
  have nums : ∀ w, CG f8En f8Er z w → w.1 42 = v.1 42 ∧ w.1 43 = v.1 43 ∧ w.1 3 ≤ v.1 29 := fun w g => ⟨by rw [g.2.2.1 42 (by decide), zv 42 (by omega)], by rw [g.2.2.1 43 (by decide), zv 43 (by omega)], by rw [g.2.2.1 3 (by decide), zv 3 (by omega)]; exact h.2.2.2.2.2.2.1.1.2.1⟩
  have lf : ∀ w, CG f8En f8Er z w → Ob.lft (oc w a) = Ob.eval := fun w g => by rw [g.oc hz.1 vz.1 vz.2, oz]; exact ho
  have w30 : ∀ w, CG f8En f8Er z w → w.1 30 = (fuel : Int) := fun w g => by rw [g.2.2.1 30 (by decide)]; exact z30
  have nov : ∀ x, x ∈ Ob.parts (oc z (v.1 45)) → Ob.isVar x = false := fun x hx => by
    rw [oz] at hx
    cases e : Ob.isVar x with
    | false => rfl
    | true =>
      have : (Ob.parts (oc v (v.1 45))).any Ob.isVar = true := List.any_eq_true.mpr ⟨x, hx, e⟩
      rw [hnv] at this
      cases this
  have ran : ∀ (s : Sp.Ek), ((∃ t, Sp.ev (H.env []) 300 (fun x => x) (oc v (v.1 45)) (fuel, 1000000, 0) = .ok t s) ∨ ∃ e, Sp.ev (H.env []) 300 (fun x => x) (oc v (v.1 45)) (fuel, 1000000, 0) = .error e s) → Sp.Ran H fuel (oc v a) (H, (fuel : Int) - (s.1 : Int), 0, false) := fun s hs => by
    refine Ran_eval ho ?_
    rw [if_pos hl, e45]
    show (if _ then _ else _)
    rw [if_neg (by rw [hnv]; decide)]
    rcases hs with ⟨t, e⟩ | ⟨t, e⟩
    · rw [e]
    · rw [e]
  refine pc_evaluated (B := v.1 29) (s := (fuel, 1000000, 0)) (env := fun x => x) hz.1 hz.2.1 (HWf.dwf (HOk.wf hz.2.2.2.2.1.1)) (arOf6 hz.2.1) vz45 (by rw [oz]; exact n45.2.1) nov z32 rfl (by rw [z31, z30]; show (0 : Int) + (fuel : Int) = (fuel : Int); omega) (by rw [z29]; show v.1 29 ≤ v.1 29 + ((0 : Nat) : Int); omega) (by show 16 * (fuel : Int) + 20 ≤ 900000; omega) (by rw [oz]; exact fitE_le fit (by omega)) (fun r w s' er g vr _ w32 w31 w29 => ?_) (fun w s' e er g _ w9 w31 w29 _ _ => ?_)
  · rw [oz] at er
    unfold pv_11_showValue
    refine ⟨fun _ => ?_, fun q => absurd (show r ≠ -1 by have := vr.1; omega) q⟩
    refine pf_write (fun x gx => ?_)
    have gx' := gx.cg g.1
    have ox : oc x a = oc w a := oc_same gx.2.1 a
    have hw30 := w30 w g
    have f9 := fit
    unfold FitE at f9
    rw [er] at f9
    have f9 : v.1 29 + γ + 3100 + (s'.2.2 : Int) ≤ 160000 := f9
    refine rn_finS (v := v) (st := (fuel : Int) - (s'.1 : Int)) ((hz.E g).wr gx) ((vz.up g).up gx') ?_ (by rw [gx.1]; exact nums w g) (by rw [ox, lf w g]; exact Ob.sym_ne (by decide)) (by rw [ox, lf w g]; exact Ob.sym_ne (by decide)) (by rw [ox, lf w g]; exact Ob.sym_ne (by decide)) ?_ (by rw [gx.1]; omega) (by rw [gx.1]; exact w32) (by rw [gx.1]; omega) (fun w' hw' => hq 0 w' _ (ran s' (Or.inl ⟨_, er⟩)) hw')
    · rw [gx.2.2 45 (by decide)]; exact rows w g
    · rw [gx.1, g.2.2.1 13 (by decide), zv 13 (by omega)]; exact h13
  · rw [oz] at er
    unfold pv_11_showValue
    refine ⟨fun q => absurd rfl q, fun _ => ?_⟩
    intro v2 e2 _
    refine pc_blame g.1 (by rw [e2]; exact w9) (fun x gx x32 => ?_)
    have hw30 := w30 w g
    have f9 := fit
    unfold FitE at f9
    rw [er] at f9
    have f9 : v.1 29 + γ + 3100 + (s'.2.2 : Int) ≤ 160000 := f9
    have x29 : x.1 29 = w.1 29 := gx.2.2.1 29 (by decide)
    have x31 : x.1 31 = w.1 31 := gx.2.2.1 31 (by decide)
    have vw := vz.up g
    have ox : oc x a = oc w a := gx.oc g.1 vw.1 vw.2
    unfold PrQ
    intro v10 e10 _
    refine ⟨fun _ => ?_, fun q => absurd (show v10 ≠ 0 by rw [e10]; exact x32) q⟩
    refine rn_failS (v := v) (st := (fuel : Int) - (s'.1 : Int)) ((hz.E g).T gx) (vw.up gx) (by rw [gx.2.2.2 45 rfl]; exact rows w g) (by rw [gx.2.2.1 42 (by decide), gx.2.2.1 43 (by decide), gx.2.2.1 3 (by decide)]; exact nums w g) (by rw [ox, lf w g]; exact Ob.sym_ne (by decide)) ?_ (by omega) x32 (by omega) (fun w' hw' => hq 4 w' _ (ran s' (Or.inr ⟨_, er⟩)) hw')
    rw [gx.2.2.1 50 (by decide), g.2.2.1 50 (by decide), zv 50 (by omega)]
    exact h50
