-- deps: 7994
/-! the class: undo -/
theorem rn_6 [DecidableEq Ob] {Q : iST → Prop} {y : iST} {H : Sp.Hs} {m : List Ob} (h : HC y H m) (hq : ∀ z, HC z H m → (∀ k, k ≠ 25 → k ≠ 26 → z.1 k = y.1 k) → z.1 25 = y.1 1 → z.2 = y.2 → z.1 26 = 0 → Q z) : pv_6_begin Q y := by
  unfold pv_6_begin
  intro z1 e1 v1 ev1 _ z2 e2
  have g1 : CG (fun k => decide (k = 25 ∨ k = 26)) f80 y z1 := by rw [e1]; exact CG_I h.1 (by decide) (by decide)
  have g2 : CG (fun k => decide (k = 25 ∨ k = 26)) f80 z1 z2 := by rw [e2]; exact CG_I g1.1 (by decide) (by decide)
  have g := g1.tr g2
  have n : ∀ k, k ≠ 25 → k ≠ 26 → z2.1 k = y.1 k := fun k a b => g.2.2.1 k (decide_eq_false (fun z => z.elim a b))
  refine hq z2 (h.keep g (fun k hk => n k (by omega) (by omega)) (fun k _ => g.2.2.2 k rfl)) n ?_ (by rw [e2, e1]; rfl) ?_
  · rw [e2, iIc_at, ev1, e1, iIc_ne _ _ (by decide)]
  · rw [e2, iIc_ne _ _ (by decide), e1, iIc_at]
theorem rn_undo [DecidableEq Ob] {γ : Int} {a : Int} {fuel : Nat} {Q : Int → iST → Prop} {v : iST} {H : Sp.Hs} (h : HC v H []) (va : VN v a) (h43 : v.1 43 = (fuel : Int)) (hA : At7 (oc v a)) (h44 : v.1 44 = -1) (hne : H.2.2 ≠ []) (h13 : v.1 13 = 0) (hg : v.1 29 + γ ≤ 160000) (hq : ∀ ans w r, Sp.Ran H fuel (oc v a) r → RcO γ v w r → Q ans w) : pv_11_run_62 Q a 0 v := by
  obtain ⟨ho, hl⟩ := hA
  refine rn_62 h h43 (fun y hy bg => ?_)
  obtain ⟨yn, y2, y30, y31, y32⟩ := bg
  unfold pv_11_prepare
  intro v1 e1 _
  rw [e1, yn 44 (by omega), h44]
  refine pc_theoremOf0 hy.2.2.1 ?_
  refine rn_6 hy (fun z hz zn z25 z2 z26 => ?_)
  have zy : ∀ k, ¬ (25 ≤ k ∧ k ≤ 32) → z.1 k = v.1 k := fun k hk => by rw [zn k (by omega) (by omega), yn k (by omega)]
  have z29 : z.1 29 = v.1 29 := by rw [zn 29 (by decide) (by decide), yn 29 (by omega)]
  have vz : VN z a := ⟨va.1, by rw [z29]; exact va.2⟩
  have z22 : z.2 = v.2 := z2.trans y2
  have oz : oc z a = oc v a := oc_same (by rw [z22]) a
  refine pc_left hz.1 vz (fun f vf ef => ?_)
  have k25 := katC hz.1 25 (o := Ob.undo) (by decide) (by decide) rfl vf.1 vf.2
  rw [ef, oz] at k25
  have f25 : f = 25 := k25.mpr ho
  have nn := hz.nums
  have l2 : 0 < z.1 2 := by
    have e := hz.2.2.2.2.2.1.2
    have : H.2.2.length = (z.1 2).toNat := by rw [e, kdC_len]
    have : H.2.2.length ≠ 0 := fun q => hne (List.eq_nil_of_length_eq_zero q)
    omega
  refine ⟨fun c => by omega, fun _ => ⟨fun c => by omega, fun _ => ⟨fun c => by omega, fun _ => ⟨fun c => by omega, fun _ => ⟨fun c => by omega, fun _ => ⟨fun c => by omega, fun _ => ⟨fun c => by omega, fun _ => ⟨fun c => by omega, fun _ => ⟨fun _ => ?_, fun c => absurd f25 c⟩⟩⟩⟩⟩⟩⟩⟩⟩
  refine pc_takeBack l2 (fun x x2 xn x12 x13 k1 k2 => ?_)
  have hx := HC_undo hz l2 x2 xn x12 x13 k1 k2
  have x22 : x.2 = v.2 := x2.trans z22
  have xv : ∀ k, 32 < k → x.1 k = v.1 k := fun k hk => by rw [xn k (by omega), zy k (by omega)]
  have ox : oc x a = oc v a := oc_same (by rw [x22]) a
  have x29 : x.1 29 = v.1 29 := by rw [xn 29 (by decide), z29]
  refine rn_none hx (by rw [xn 13 (by decide), zy 13 (by omega)]; exact h13) (by rw [xn 32 (by decide), zn 32 (by decide) (by decide)]; exact y32) (fun t ht tn t15 t2 => ?_)
  have vt : VN t a := ⟨va.1, by rw [tn 29 (by decide) (by decide), x29]; exact va.2⟩
  have ot : oc t a = oc v a := by rw [oc_same (u := x) (v := t) (by rw [t2]), ox]
  refine rn_111 ht.1 vt (by rw [ot, ho]; exact Ob.sym_ne (by decide)) ?_
  refine rn_140 ht (fun s hs sn s48 s2 => ?_)
  have vs : VN s a := ⟨va.1, by rw [sn 29 (by decide) (by decide)]; exact vt.2⟩
  have os : oc s a = oc v a := by rw [oc_same (u := t) (v := s) (by rw [s2]), ot]
  refine cc_plain hs vs (by rw [os, ho]; exact Ob.sym_ne (by decide)) (by rw [os, ho]; exact Ob.sym_ne (by decide)) (by rw [os, ho]; exact Ob.sym_ne (by decide)) ?_ ?_ (fun w hw w50 wn w2 => hq 0 w _ (Ran_undo ho (by rw [if_pos ⟨hl, hne⟩])) ⟨⟨[], hw⟩, ?_, ?_, ?_, ⟨?_, ?_, ?_, by rw [wn 29 (by decide), sn 29 (by decide) (by decide), tn 29 (by decide) (by decide), x29]; exact hg⟩, ?_, fun q => by cases q⟩)
  · rw [sn 32 (by decide) (by decide), tn 32 (by decide) (by decide), xn 32 (by decide), zn 32 (by decide) (by decide)]; exact y32
  · rw [sn 15 (by decide) (by decide)]; exact t15
  · show w.1 48 = 0
    rw [wn 48 (by decide), s48, tn 31 (by decide) (by decide), xn 31 (by decide), zn 31 (by decide) (by decide)]
    exact y31
  · show w.1 15 = 0
    rw [wn 15 (by decide), sn 15 (by decide) (by decide)]
    exact t15
  · have : w.1 50 = 0 := w50.mpr (by rw [sn 13 (by decide) (by decide), tn 13 (by decide) (by decide), xn 13 (by decide), zy 13 (by omega), h13]; exact Int.le_refl _)
    rw [this]
    exact bq0 rfl
  · rw [wn 42 (by decide), sn 42 (by decide) (by decide), tn 42 (by decide) (by decide), xv 42 (by decide)]
  · rw [wn 43 (by decide), sn 43 (by decide) (by decide), tn 43 (by decide) (by decide), xv 43 (by decide)]
  · rw [wn 3 (by decide), sn 3 (by decide) (by decide), tn 3 (by decide) (by decide), x13]
    have q := (hz.2.2.2.2.2.2.1.2 (z.1 2 - 1) (by omega) (by omega)).2.1
    have q2 := hz.2.2.2.2.2.2.1.1.2.1
    omega
  · rw [w2, s2, t2, x22]
