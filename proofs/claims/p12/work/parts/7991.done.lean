-- deps: 799
/-! the class: what a command gives -/
theorem HC.i [DecidableEq Ob] {u : iST} {H : Sp.Hs} {m : List Ob} {k : Nat} {x : Int} (h : HC u H m) (hk : 37 < k) : HC (iI u k x) H m := by
  have g : CG (fun j => decide (j = k)) f80 u (iI u k x) := CG_I h.1 (by omega) (decide_eq_true rfl)
  exact h.keep g (fun j hj => iIc_ne _ _ (by omega)) (fun j _ => rfl)
/-- the commands that take nothing -/
theorem cc_plain [DecidableEq Ob] {a mk : Int} {Q : Int → iST → Prop} {y : iST} {H : Sp.Hs} {m : List Ob} (h : HC y H m) (va : VN y a) (f1 : Ob.lft (oc y a) ≠ Ob.defun) (f2 : Ob.lft (oc y a) ≠ Ob.defthm) (f3 : Ob.lft (oc y a) ≠ Ob.check) (h32 : y.1 32 = 0) (h15 : y.1 15 = 0) (hq : ∀ w, HC w H m → (w.1 50 = 0 ↔ y.1 13 ≤ 0) → (∀ k, k ≠ 50 → w.1 k = y.1 k) → w.2 = y.2 → Q 0 w) : pv_11_conclude a mk Q y := by
  unfold pv_11_conclude
  refine pc_left h.1 va (fun f vf ef => ?_)
  have k20 := katC h.1 20 (o := Ob.defun) (by decide) (by decide) rfl vf.1 vf.2
  have k21 := katC h.1 21 (o := Ob.defthm) (by decide) (by decide) rfl vf.1 vf.2
  have k22 := katC h.1 22 (o := Ob.check) (by decide) (by decide) rfl vf.1 vf.2
  rw [ef] at k20 k21 k22
  intro v2 e2 _
  refine ⟨fun _ => ?_, fun z => absurd (e2.trans h32) z⟩
  intro v3 e3 _
  refine ⟨fun _ => ?_, fun z => absurd (show v3 ≤ 0 by omega) z⟩
  intro v4 e4 _
  have go : ∀ b : Int, (b = 0 ↔ y.1 13 ≤ 0) → pv_11_conclude_88 Q a mk f b y := fun b hb => by
    unfold pv_11_conclude_88
    intro _ w ew
    refine ⟨fun _ => ?_, fun z => absurd (fun c => f3 (k22.mp c)) z⟩
    unfold pv_11_conclude_119
    refine ⟨fun _ => ⟨fun z => absurd (k21.mp z) f2, fun _ => ⟨fun _ => ?_, fun z => absurd (fun c => f3 (k22.mp c)) z⟩⟩, fun z => absurd (fun c => f1 (k20.mp c)) z⟩
    refine hq w (by rw [ew]; exact h.i (by decide)) (by rw [ew, iIc_at]; exact hb) (fun k hk => by rw [ew, iIc_ne _ _ hk]) (by rw [ew]; rfl)
  exact ⟨fun z => go 0 ⟨fun _ => by omega, fun _ => rfl⟩, fun z => go 1 ⟨(fun q => by cases q), fun q => by omega⟩⟩
/-- a definition is taken -/
theorem cc_def [DecidableEq Ob] {a mk : Int} {Q : Int → iST → Prop} {y : iST} {H : Sp.Hs} {m : List Ob} {D : Sp.Dfn} (h : HC y H m) (va : VN y a) (hf : Ob.lft (oc y a) = Ob.defun) (h32 : y.1 32 = 0) (h15 : y.1 15 = 0) (hO : Sp.HOk (Sp.addDef H D)) (h40 : H.1.length < 40) (m1 : y.1 3 ≤ mk) (m2 : mk ≤ y.1 29) (am : a < mk) (v44 : VN y (y.1 44) ∧ y.1 44 < mk) (v45 : VN y (y.1 45) ∧ y.1 45 < mk) (v46 : y.1 46 < mk ∧ (y.1 46 ≠ -1 → VN y (y.1 46))) (hn : (oc y (y.1 44)).isName = true) (hl : Ob.len (Ob.item (oc y a) 2) ≠ -1) (l6 : Ob.len (Ob.item (oc y a) 2) ≤ 6) (eD : D = (oc y (y.1 44), Ob.toList (Ob.item (oc y a) 2), oc y (y.1 45), if y.1 46 = -1 then none else some (oc y (y.1 46))))
    (hq : ∀ w, HC w (Sp.addDef H D) m → (w.1 50 = 0 ↔ y.1 13 ≤ 0) → (w.1 3 = mk ∧ ∀ k, 3 < k → k ≠ 50 → w.1 k = y.1 k) → (∀ k, 15 < k → w.2.1 k = y.2.1 k) → w.2.2 = y.2.2 → BkP y w → Q 0 w) : pv_11_conclude a mk Q y := by
  unfold pv_11_conclude
  refine pc_left h.1 va (fun f vf ef => ?_)
  have k20 := katC h.1 20 (o := Ob.defun) (by decide) (by decide) rfl vf.1 vf.2
  rw [ef] at k20
  have f20 : f = 20 := k20.mpr hf
  intro v2 e2 _
  refine ⟨fun _ => ?_, fun z => absurd (e2.trans h32) z⟩
  intro v3 e3 _
  refine ⟨fun _ => ?_, fun z => absurd (show v3 ≤ 0 by omega) z⟩
  intro v4 e4 _
  have ll := Ob.len_low (Ob.item (oc y a) 2)
  have go : ∀ b : Int, (b = 0 ↔ y.1 13 ≤ 0) → pv_11_conclude_88 Q a mk f b y := fun b hb => by
    unfold pv_11_conclude_88
    intro _ s es
    have hs : HC s H m := by rw [es]; exact h.i (by decide)
    have sn : ∀ k, k ≠ 50 → s.1 k = y.1 k := fun k hk => by rw [es, iIc_ne _ _ hk]
    have s50 : s.1 50 = b := by rw [es, iIc_at]
    have s2 : s.2 = y.2 := by rw [es]; rfl
    have os : ∀ x, oc s x = oc y x := fun x => oc_same (by rw [s2]) x
    have vns : ∀ x, VN y x → VN s x := fun x q => ⟨q.1, by rw [sn 29 (by decide)]; exact q.2⟩
    refine ⟨fun _ => ?_, fun z => absurd (show f ≠ 22 by omega) z⟩
    unfold pv_11_conclude_119
    refine ⟨fun z => absurd f20 z, fun _ => ?_⟩
    refine pc_item hs.1 (vns a va) (by decide) (fun t vt et => ?_)
    have et : oc s t = Ob.item (oc y a) 2 := by rw [← os a]; exact et
    intro v11 e11 _
    refine pc_lengthOf hs.1 vt ?_
    rw [et]
    intro v13 e13 _ v14 e14 _
    rw [sn 44 (by decide)] at e11
    rw [sn 45 (by decide)] at e13
    rw [sn 46 (by decide)] at e14
    rw [e11, e13, e14]
    obtain ⟨nm1, nm2, nm3, nm4, nm5, nm6, nm7⟩ := hs.nums
    have l60 := hs.2.2.2.2.1.2.2
    have h44' : 44 ≤ y.1 3 := h.2.2.2.2.2.2.1.1.1
    have tm : t < mk := by
      rcases subO_item 2 (oc y a) with q | q
      · have q' : subO (oc s t) (oc s a) := by rw [et, os]; exact q
        have := node_low hs.1 (vns a va) vt q'
        omega
      · rw [← et] at q
        have := (oc_nil hs.1 vt).mpr q
        omega
    refine pc_addFunction hs.1 rfl (by omega) (fun v g vc vn v0 vro vhi p0 p1 p2 p3 p4 => ?_)
    refine pc_enter g.1 (by rw [vn 2 (by decide)]; omega) (fun w gw wc wn w2 w3 w14 w15 wr => ?_)
    have n3 : ∀ k, 3 < k → w.1 k = s.1 k := fun k hk => by rw [wn k (by omega) (by omega), vn k (by omega)]
    have G : CG f8U3 (fun k => decide (k ≤ 4 ∨ k = 14 ∨ k = 15)) s w := (g.mono (fun k hk => by unfold f8U3 at hk; have := of_decide_eq_false hk; exact decide_eq_false (by omega)) (fun k hk => by have := of_decide_eq_false hk; exact decide_eq_false (by omega))).tr (gw.mono (fun k hk => by unfold f8U3 at hk; have := of_decide_eq_false hk; exact decide_eq_false (by omega)) (fun k hk => by have := of_decide_eq_false hk; exact decide_eq_false (by omega)))
    have rlo : ∀ k, k ≤ 4 → w.2.1 k = v.2.1 k := fun k hk => wr k (by omega) (by omega)
    have hcw := HC_def (t0 := y.1 44) (t1 := t) (t2 := Ob.len (Ob.item (oc y a) 2)) (t3 := y.1 45) (t4 := y.1 46) hs hO h40 G (wc.trans vc) (by rw [wn 0 (by decide) (by decide)]; exact v0) (by rw [wn 1 (by decide) (by decide), vn 1 (by decide)]) (by rw [w2, vn 2 (by decide)]) w3 (by rw [sn 3 (by decide)]; exact m1) (by rw [sn 29 (by decide)]; exact m2) (fun k hk j hj => by rw [rlo k hk]; exact vro k j hj) (by rw [rlo 0 (by omega)]; exact p0) (by rw [rlo 1 (by omega)]; exact p1) (by rw [rlo 2 (by omega)]; exact p2) (by rw [rlo 3 (by omega)]; exact p3) (by rw [rlo 4 (by omega)]; exact p4) (fun i => by rw [w14, vn 2 (by decide), vhi 14 (by decide)]) (fun i => by rw [w15, vn 2 (by decide), vn 3 (by decide), vhi 15 (by decide)]) ⟨vns _ v44.1, v44.2⟩ ⟨vt, tm⟩ ⟨vns _ v45.1, v45.2⟩ ⟨v46.1, fun z => vns _ (v46.2 z)⟩ (by rw [os]; exact hn) (by rw [et]) (by omega) l6 (by rw [os, et, os, os]; exact eD)
    refine hq w hcw (by rw [n3 50 (by decide), s50]; exact hb) ⟨w3, fun k hk h50 => by rw [n3 k hk, sn k h50]⟩ (fun k hk => by rw [wr k (by omega) (by omega), vhi k (by omega), s2]) (by rw [wc, vc, s2]) ⟨⟨by rw [n3 25 (by decide), sn 25 (by decide)], by rw [wn 0 (by decide) (by decide), v0, sn 0 (by decide)]; omega, by rw [wn 1 (by decide) (by decide), vn 1 (by decide), sn 1 (by decide)]; exact Int.le_refl _⟩, fun k hk j hj => by rw [rlo k hk, vro k j (by rw [sn 0 (by decide)]; omega), s2], fun k h1 h2 j _ => by rw [wr k (by omega) (by omega), vhi k (by omega), s2], by rw [wr 13 (by decide) (by decide), vhi 13 (by decide), s2], fun i _ => by rw [wr 50 (by decide) (by decide), vhi 50 (by decide), s2], hcw.2.1.2.2⟩
  exact ⟨fun z => go 0 ⟨fun _ => by omega, fun _ => rfl⟩, fun z => go 1 ⟨(fun q => by cases q), fun q => by omega⟩⟩
