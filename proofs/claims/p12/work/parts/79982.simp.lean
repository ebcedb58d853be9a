-- deps: 79981
/-! the class: simplify -/
theorem HC.env [DecidableEq Ob] {z : iST} {H : Sp.Hs} {m : List Ob} (h : HC z H m) (h25 : z.1 25 = z.1 1) : EnvC z (H.env m) := ⟨h.2.1, HWf.dwf (HOk.wf h.2.2.2.2.1.1), fun D hD => ((HOk.wf h.2.2.2.2.1.1).1 D hD).2.2.1.2.1, h.2.2.1, h25, h.2.2.2.2.2.2.2.1.2⟩
theorem HC.J [DecidableEq Ob] {u v : iST} {H : Sp.Hs} {m : List Ob} (h : HC u H m) (g : CG f8Jn f8Jr u v) : HC v H m := h.keep g (fun k hk => g.2.2.1 k (by unfold f8Jn; simp only [Bool.or_eq_false_iff, decide_eq_false_iff_not]; omega)) (fun k hk => g.2.2.2 k (by unfold f8Jr; simp only [Bool.or_eq_false_iff, decide_eq_false_iff_not]; omega))
/-- the end of a command that takes nothing and has nothing LEFT -/
theorem rn_finS [DecidableEq Ob] {γ : Int} {a mk st : Int} {Q : Int → iST → Prop} {v x : iST} {H' : Sp.Hs} {m : List Ob} (hx : HC x H' m) (va : VN x a) (x45 : x.2.1 45 = v.2.1 45) (xv : x.1 42 = v.1 42 ∧ x.1 43 = v.1 43 ∧ x.1 3 ≤ v.1 29) (f1 : Ob.lft (oc x a) ≠ Ob.defun) (f2 : Ob.lft (oc x a) ≠ Ob.defthm) (f3 : Ob.lft (oc x a) ≠ Ob.check) (h13 : x.1 13 = 0) (h31 : x.1 31 = st) (h32 : x.1 32 = 0) (hg : x.1 29 + γ ≤ 160000) (hq : ∀ w, RcO γ v w (H', st, 0, false) → Q 0 w) : PrQ Q a mk x := by
  refine rn_none hx h13 h32 (fun t ht tn t15 t2 => ?_)
  have vt : VN t a := ⟨va.1, by rw [tn 29 (by decide) (by decide)]; exact va.2⟩
  have ot : oc t a = oc x a := oc_same (u := x) (v := t) (by rw [t2]) a
  refine rn_111 ht.1 vt (by rw [ot]; exact f3) ?_
  refine rn_140 ht (fun s hs sn s48 s2 => ?_)
  have vs : VN s a := ⟨va.1, by rw [sn 29 (by decide) (by decide)]; exact vt.2⟩
  have os : oc s a = oc x a := by rw [oc_same (u := t) (v := s) (by rw [s2]), ot]
  refine cc_plain hs vs (by rw [os]; exact f1) (by rw [os]; exact f2) (by rw [os]; exact f3) ?_ ?_ (fun w hw w50 wn w2 => hq w ⟨⟨m, hw⟩, ?_, ?_, ?_, ⟨?_, ?_, ?_, by rw [wn 29 (by decide), sn 29 (by decide) (by decide), tn 29 (by decide) (by decide)]; exact hg⟩, ?_, fun q => by cases q⟩)
  · rw [sn 32 (by decide) (by decide), tn 32 (by decide) (by decide)]; exact h32
  · rw [sn 15 (by decide) (by decide)]; exact t15
  · show w.1 48 = st
    rw [wn 48 (by decide), s48, tn 31 (by decide) (by decide)]
    exact h31
  · show w.1 15 = 0
    rw [wn 15 (by decide), sn 15 (by decide) (by decide)]
    exact t15
  · have : w.1 50 = 0 := w50.mpr (by rw [sn 13 (by decide) (by decide), tn 13 (by decide) (by decide), h13]; exact Int.le_refl _)
    rw [this]
    exact bq0 rfl
  · rw [wn 42 (by decide), sn 42 (by decide) (by decide), tn 42 (by decide) (by decide)]; exact xv.1
  · rw [wn 43 (by decide), sn 43 (by decide) (by decide), tn 43 (by decide) (by decide)]; exact xv.2.1
  · rw [wn 3 (by decide), sn 3 (by decide) (by decide), tn 3 (by decide) (by decide)]; exact xv.2.2
  · rw [w2, s2, t2]; exact x45
/-- the end of a command that has failed; it is no PROOF -/
theorem rn_failS [DecidableEq Ob] {γ : Int} {a mk st : Int} {Q : Int → iST → Prop} {v x : iST} {H : Sp.Hs} {m : List Ob} (hx : HC x H m) (va : VN x a) (x45 : x.2.1 45 = v.2.1 45) (xv : x.1 42 = v.1 42 ∧ x.1 43 = v.1 43 ∧ x.1 3 ≤ v.1 29) (f3 : Ob.lft (oc x a) ≠ Ob.check) (h50 : x.1 50 = 0) (h31 : x.1 31 = st) (h32 : x.1 32 ≠ 0) (hg : x.1 29 + γ ≤ 160000) (hq : ∀ w, RcO γ v w (H, st, 0, false) → Q 4 w) : pv_11_run_111 Q a mk x := by
  refine rn_111 hx.1 va f3 (rn_140 hx (fun s hs sn s48 s2 => ?_))
  refine cc_fail hs (by rw [sn 32 (by decide) (by decide)]; exact h32) (fun w hw w15 wn wr => hq w ⟨⟨m, hw⟩, ?_, w15, ?_, ⟨?_, ?_, ?_, by rw [wn 29 (by decide) (by decide), sn 29 (by decide) (by decide)]; exact hg⟩, ?_, fun q => by cases q⟩)
  · show w.1 48 = st
    rw [wn 48 (by decide) (by decide), s48]
    exact h31
  · rw [wn 50 (by decide) (by decide), sn 50 (by decide) (by decide), h50]
    exact bq0 rfl
  · rw [wn 42 (by decide) (by decide), sn 42 (by decide) (by decide)]; exact xv.1
  · rw [wn 43 (by decide) (by decide), sn 43 (by decide) (by decide)]; exact xv.2.1
  · rw [wn 3 (by decide) (by decide), sn 3 (by decide) (by decide)]; exact xv.2.2
  · rw [wr 45 (by decide), s2]; exact x45
theorem bd_rt [DecidableEq Ob] {α : Type} (f : Sp.M α) : Sp.bd f Sp.ret = f := by
  funext s
  unfold Sp.bd Sp.ret
  cases f s with
  | ok a s' => rfl
  | error e s' => rfl
theorem rn_simplify [DecidableEq Ob] {γ : Int} {a : Int} {fuel : Nat} {Q : Int → iST → Prop} {v : iST} {H : Sp.Hs} (h : HC v H []) (va : VN v a) (h43 : v.1 43 = (fuel : Int)) (hfu : fuel ≤ 1000) (hA : At2 H (oc v a) v) (h44 : v.1 44 = -1) (h13 : v.1 13 = 0) (h50 : v.1 50 = 0) (γ0 : 0 ≤ γ) (fit : Fit (v.1 29 + γ + 3100) (Sp.rw (H.env []) 60 [] (oc v (v.1 45)) false (fuel, 0))) (hq : ∀ ans w r, Sp.Ran H fuel (oc v a) r → RcO γ v w r → Q ans w) : pv_11_run_62 Q a 0 v := by
  obtain ⟨ho, hl, n45, e45⟩ := hA
  refine rn_62 h h43 (fun y hy bg => ?_)
  obtain ⟨yn, y2, y30, y31, y32⟩ := bg
  have oy : ∀ x, oc y x = oc v x := fun x => oc_same (by rw [y2]) x
  have y29 : y.1 29 = v.1 29 := yn 29 (by omega)
  have y45 : y.1 45 = v.1 45 := yn 45 (by omega)
  refine rn_prep (c := 18) hy ⟨va.1, by rw [y29]; exact va.2⟩ (Or.inl (by rw [yn 44 (by omega)]; exact h44)) (by decide) (by decide) rfl (by rw [oy]; exact ho) (fun z hz zn z25 z2 z26 => ⟨(fun q => by cases q), fun _ => ?_, (fun q => by omega), (fun q => by cases q), (fun q => by cases q)⟩)
  have z22 : z.2 = v.2 := z2.trans y2
  have oz : ∀ x, oc z x = oc v x := fun x => oc_same (by rw [z22]) x
  have z29 : z.1 29 = v.1 29 := by rw [zn 29 (by decide) (by decide)]; exact y29
  have zv : ∀ k, ¬ (25 ≤ k ∧ k ≤ 32) → z.1 k = v.1 k := fun k hk => by rw [zn k (by omega) (by omega), yn k (by omega)]
  have hE := hz.env (by rw [z25, zn 1 (by decide) (by decide)])
  have nz : NdC z (H.env []) (v.1 45) := ⟨⟨n45.1.1, by rw [z29]; exact n45.1.2⟩, by rw [oz]; exact n45.2.1, by rw [oz]; exact n45.2.2⟩
  rw [y45]
  obtain ⟨k0, k1⟩ := VN.zero hz.1
  have z31 : z.1 31 = 0 := by rw [zn 31 (by decide) (by decide)]; exact y31
  have z30 : z.1 30 = (fuel : Int) := by rw [zn 30 (by decide) (by decide)]; exact y30
  have z32 : z.1 32 = 0 := by rw [zn 32 (by decide) (by decide)]; exact y32
  have hst : StS z (fuel, 0) := ⟨by omega, by unfold StC; rw [z31, z30]; show (0 : Int) + (fuel : Int) = (fuel : Int); omega⟩
  have hP : PdK_d (v.1 29) 0 f8Jn f8Jr z z (Sp.rw (H.env []) 60 [] (oc v (v.1 45)) false (fuel, 0)) (Sp.bd (Sp.rw (H.env []) 60 [] (oc z (v.1 45)) (decide ((0 : Int) = 1))) Sp.ret) := by
    refine ⟨CG.rf hz.1, Or.inl ⟨(fuel, 0), ⟨z32, hst, ?_⟩, ?_⟩⟩
    · rw [z29]
      show v.1 29 ≤ v.1 29 + ((0 : Nat) : Int)
      omega
    · rw [bd_rt, oz]
      rfl
  have ok : ∀ r, r = Sp.ranM H fuel (fun _ => H) (Sp.rw (H.env []) 60 [] (oc v (v.1 45)) false) → Sp.Ran H fuel (oc v a) r := fun r hr => by
    refine Ran_simplify ho ?_
    rw [if_pos hl, e45]
    exact hr
  have rows : ∀ w, CG f8Jn f8Jr z w → w.2.1 45 = v.2.1 45 := fun w g => by rw [g.2.2.2 45 (by decide), z22]
  have nums : ∀ w, CG f8Jn f8Jr z w → w.1 42 = v.1 42 ∧ w.1 43 = v.1 43 ∧ w.1 3 ≤ v.1 29 := fun w g => ⟨by rw [g.2.2.1 42 (by decide), zv 42 (by omega)], by rw [g.2.2.1 43 (by decide), zv 43 (by omega)], by rw [g.2.2.1 3 (by decide), zv 3 (by omega)]; exact h.2.2.2.2.2.2.1.1.2.1⟩
  have vz : VN z a := ⟨va.1, by rw [z29]; exact va.2⟩
  have lf : ∀ w, CG f8Jn f8Jr z w → Ob.lft (oc w a) = Ob.simplify := fun w g => by rw [g.oc hz.1 vz.1 vz.2, oz]; exact ho
  refine pc_rewrittenG hP (fun _ q => q) (fun _ q => q) hE (fit.le (by omega)) (fun x s => Nat.le_refl _) (by omega) z32 (Or.inl rfl) nz ⟨k0, k1, fun x hx => by cases hx⟩ ⟨by rw [z26]; exact Int.le_refl _, by rw [z26, z31]; exact Int.le_refl _⟩ (fun t w g nt w32 Pw _ _ _ => ?_) (fun w g w32 he => ?_)
  · unfold pv_11_showTerm
    refine ⟨fun q => by have := nt.1.1; omega, fun _ => ?_⟩
    refine pf_write (fun x gx => ?_)
    obtain ⟨s, hls, eR⟩ := Pw.live w32
    have w30 : w.1 30 = (fuel : Int) := by rw [g.2.2.1 30 (by decide)]; exact z30
    have hsc : w.1 31 + (s.1 : Int) = w.1 30 := hls.2.1.2
    have f9 := fit
    unfold Fit at f9
    rw [eR] at f9
    have f9 : v.1 29 + γ + 3100 + (s.2 : Int) ≤ 160000 := f9
    have l9 := hls.2.2
    have gx' := gx.cg g.1
    have vw := vz.up g
    have ox : oc x a = oc w a := oc_same gx.2.1 a
    refine rn_finS (v := v) (st := (fuel : Int) - (s.1 : Int)) ((hz.J g).wr gx) (vw.up gx') ?_ (by rw [gx.1]; exact nums w g) (by rw [ox, lf w g]; exact Ob.sym_ne (by decide)) (by rw [ox, lf w g]; exact Ob.sym_ne (by decide)) (by rw [ox, lf w g]; exact Ob.sym_ne (by decide)) ?_ (by rw [gx.1]; omega) (by rw [gx.1]; exact w32) (by rw [gx.1]; omega) (fun w' hw' => hq 0 w' _ (ok _ ?_) hw')
    · rw [gx.2.2 45 (by decide)]; exact rows w g
    · rw [gx.1, g.2.2.1 13 (by decide), zv 13 (by omega)]; exact h13
    · unfold Sp.ranM
      rw [eR]
      rfl
  · unfold pv_11_showTerm
    refine ⟨fun _ => ?_, fun q => absurd rfl q⟩
    obtain ⟨s, hd, eR⟩ := he
    have w30 : w.1 30 = (fuel : Int) := by rw [g.2.2.1 30 (by decide)]; exact z30
    have hsc : w.1 31 + (s.1 : Int) = w.1 30 := hd.2.1.2
    have f9 := fit
    unfold Fit at f9
    rw [eR] at f9
    have f9 : v.1 29 + γ + 3100 + (s.2 : Int) ≤ 160000 := f9
    have l9 := hd.2.2
    unfold PrQ
    intro v10 e10 _
    refine ⟨fun _ => ?_, fun q => absurd (show v10 ≠ 0 by rw [e10]; exact w32) q⟩
    refine rn_failS (v := v) (st := (fuel : Int) - (s.1 : Int)) (hz.J g) (vz.up g) (rows w g) (nums w g) (by rw [lf w g]; exact Ob.sym_ne (by decide)) ?_ (by omega) w32 (by omega) (fun w' hw' => hq 4 w' _ (ok _ ?_) hw')
    · rw [g.2.2.1 50 (by decide), zv 50 (by omega)]; exact h50
    · unfold Sp.ranM
      rw [eR]
