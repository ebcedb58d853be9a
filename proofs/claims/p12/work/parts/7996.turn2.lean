-- deps: 7995
/-! the class: on, off -/
/-- the end of a command with no work -/
theorem rn_fin [DecidableEq Ob] {γ : Int} {a mk : Int} {Q : Int → iST → Prop} {v x : iST} {H' : Sp.Hs} {m : List Ob} (hx : HC x H' m) (va : VN v a) (x29 : x.1 29 = v.1 29) (xc : x.2.2 = v.2.2) (x45 : x.2.1 45 = v.2.1 45) (xv : x.1 42 = v.1 42 ∧ x.1 43 = v.1 43 ∧ x.1 3 ≤ v.1 29) (f1 : Ob.lft (oc v a) ≠ Ob.defun) (f2 : Ob.lft (oc v a) ≠ Ob.defthm) (f3 : Ob.lft (oc v a) ≠ Ob.check) (h13 : x.1 13 = 0) (h31 : x.1 31 = 0) (h32 : x.1 32 = 0) (hg : v.1 29 + γ ≤ 160000) (hq : ∀ w, RcO γ v w (H', 0, 0, false) → Q 0 w) : PrQ Q a mk x := by
  refine rn_none hx h13 h32 (fun t ht tn t15 t2 => ?_)
  have vt : VN t a := ⟨va.1, by rw [tn 29 (by decide) (by decide), x29]; exact va.2⟩
  have ot : oc t a = oc v a := by rw [oc_same (u := x) (v := t) (by rw [t2]), oc_same (u := v) (v := x) xc]
  refine rn_111 ht.1 vt (by rw [ot]; exact f3) ?_
  refine rn_140 ht (fun s hs sn s48 s2 => ?_)
  have vs : VN s a := ⟨va.1, by rw [sn 29 (by decide) (by decide)]; exact vt.2⟩
  have os : oc s a = oc v a := by rw [oc_same (u := t) (v := s) (by rw [s2]), ot]
  refine cc_plain hs vs (by rw [os]; exact f1) (by rw [os]; exact f2) (by rw [os]; exact f3) ?_ ?_ (fun w hw w50 wn w2 => hq w ⟨⟨m, hw⟩, ?_, ?_, ?_, ⟨?_, ?_, ?_, by rw [wn 29 (by decide), sn 29 (by decide) (by decide), tn 29 (by decide) (by decide), x29]; exact hg⟩, ?_, fun q => by cases q⟩)
  · rw [sn 32 (by decide) (by decide), tn 32 (by decide) (by decide)]; exact h32
  · rw [sn 15 (by decide) (by decide)]; exact t15
  · show w.1 48 = 0
    rw [wn 48 (by decide), s48, tn 31 (by decide) (by decide)]
    exact h31
  · show w.1 15 = 0
    rw [wn 15 (by decide), sn 15 (by decide) (by decide)]
    exact t15
  · have : w.1 50 = 0 := w50.mpr (by rw [sn 13 (by decide) (by decide), tn 13 (by decide) (by decide), h13]; exact Int.le_refl _)
    rw [this]
    exact bq0 rfl
  · rw [wn 42 (by decide), sn 42 (by decide) (by decide), tn 42 (by decide) (by decide)]; exact xv.1
  · rw [wn 43 (by decide), sn 43 (by decide) (by decide), tn 43 (by decide) (by decide)]; exact xv.2.1
  · rw [wn 3 (by decide), sn 3 (by decide) (by decide), tn 3 (by decide) (by decide)]; exact xv.2.2
  · rw [w2, s2, t2]; exact x45
theorem rn_turn [DecidableEq Ob] {γ : Int} {a : Int} {fuel : Nat} {Q : Int → iST → Prop} {v : iST} {H : Sp.Hs} (h : HC v H []) (va : VN v a) (h43 : v.1 43 = (fuel : Int)) (hA : At6 (oc v a) v) (hN : ((H.env []).thmOf (Ob.item (oc v a) 1)).any (fun k => k.rule.isSome) = true) (h13 : v.1 13 = 0) (hg : v.1 29 + γ ≤ 160000) (hq : ∀ ans w r, Sp.Ran H fuel (oc v a) r → RcO γ v w r → Q ans w) : pv_11_run_62 Q a 0 v := by
  obtain ⟨ho, hl, w1, w2, w3⟩ := hA
  have ne : ∀ s : List Int, Ob.enc s ≠ Ob.enc [111, 110] → Ob.enc s ≠ Ob.enc [111, 102, 102] → Ob.lft (oc v a) ≠ Ob.sym s := fun s n1 n2 z => by
    rcases ho with e | e
    · exact Ob.sym_ne n1 (z.symm.trans e)
    · exact Ob.sym_ne n2 (z.symm.trans e)
  refine rn_62 h h43 (fun y hy bg => ?_)
  obtain ⟨yn, y2, y30, y31, y32⟩ := bg
  unfold pv_11_prepare
  intro v1 e1 _
  rw [e1, yn 44 (by omega)]
  have oy : ∀ x, oc y x = oc v x := fun x => oc_same (by rw [y2]) x
  refine pc_theoremOf hy.1 hy.2.2.1 ⟨w1.1, by rw [yn 29 (by omega)]; exact w1.2⟩ (fun hno => ?_) (fun r k hr hk h5 hs => ?_)
  · rw [oy, w2] at hno
    rw [hno] at hN
    cases hN
  rw [oy, w2] at hs
  rw [hs] at hN
  have hN : k.rule.isSome = true := hN
  refine rn_6 hy (fun z hz zn z25 z2 z26 => ?_)
  have zy : ∀ k, ¬ (25 ≤ k ∧ k ≤ 32) → z.1 k = v.1 k := fun k hk => by rw [zn k (by omega) (by omega), yn k (by omega)]
  have z29 : z.1 29 = v.1 29 := by rw [zn 29 (by decide) (by decide), yn 29 (by omega)]
  have vz : VN z a := ⟨va.1, by rw [z29]; exact va.2⟩
  have z22 : z.2 = v.2 := z2.trans y2
  have oz : oc z a = oc v a := oc_same (by rw [z22]) a
  have hrz : (r : Int) < z.1 1 := by rw [zn 1 (by decide) (by decide)]; exact hr
  have h7 : z.2.1 7 (r : Int) ≠ -1 := fun q => by
    obtain ⟨_, ⟨k', hk', tk⟩, _⟩ := hz.2.2.1.2 r hrz
    have ek : k' = k := Option.some.inj (hk'.symm.trans hk)
    rw [ek] at tk
    have er : k.rule = rulC z (r : Int) := tk.2.2
    rw [er] at hN
    unfold rulC at hN
    rw [if_pos q] at hN
    cases hN
  have ek1 : k.1 = Ob.item (oc v a) 1 := by
    have e' : (H.env []).thms.find? (fun d => decide (d.name = Ob.item (oc v a) 1)) = some k := hs
    have e0 : decide (k.name = Ob.item (oc v a) 1) = true := List.find?_some (p := fun d : Sp.Thm => decide (d.name = Ob.item (oc v a) 1)) e'
    exact of_decide_eq_true e0
  have fin : ∀ (b : Int) (x : iST), (b = 0 ∨ b = 1) → decide (b = 1) = decide (Ob.lft (oc v a) = Ob.on) → x = iA z 12 (r : Int) b → PrQ Q a (v.1 29) x := fun b x hb eb ex => by
    have hx := HC_turn hz hrz hk h7 ex hb
    have xn : x.1 = z.1 := by rw [ex]; rfl
    rw [ek1, eb] at hx
    refine rn_fin hx va (by rw [xn]; exact z29) (by rw [ex]; show z.2.2 = _; rw [z22]) (by rw [ex, iAc_ne _ _ _ (by decide), z22]) ⟨by rw [xn, zy 42 (by omega)], by rw [xn, zy 43 (by omega)], by rw [xn, zy 3 (by omega)]; exact h.2.2.2.2.2.2.1.1.2.1⟩ (ne _ (by decide) (by decide)) (ne _ (by decide) (by decide)) (ne _ (by decide) (by decide)) (by rw [xn, zy 13 (by omega)]; exact h13) (by rw [xn, zn 31 (by decide) (by decide)]; exact y31) (by rw [xn, zn 32 (by decide) (by decide)]; exact y32) hg (fun w hw => hq 0 w _ (Ran_turn ho ?_) hw)
    rw [if_pos ⟨hl, w3, by rw [hs]; exact hN⟩]
  refine pc_left hz.1 vz (fun f vf ef => ?_)
  have k23 := katC hz.1 23 (o := Ob.on) (by decide) (by decide) rfl vf.1 vf.2
  have k24 := katC hz.1 24 (o := Ob.off) (by decide) (by decide) rfl vf.1 vf.2
  rw [ef, oz] at k23 k24
  have f2 : f = 23 ∨ f = 24 := ho.elim (fun e => Or.inl (k23.mpr e)) (fun e => Or.inr (k24.mpr e))
  have turn : br ((r : Int) = (-1)) (PrQ Q a (v.1 29) z) (pv_7_left a (fun v33 u => br (v33 ≠ 23) (ztp 0 (bdp (r : Int) 60 (sw (iA u 12 (r : Int) 0) (fun u => PrQ Q a (v.1 29) u)))) (ztp 1 (bdp (r : Int) 60 (sw (iA u 12 (r : Int) 1) (fun u => PrQ Q a (v.1 29) u))))) z) := by
    refine ⟨fun q => by omega, fun _ => ?_⟩
    refine pc_left hz.1 vz (fun f' vf' ef' => ?_)
    have k23' := katC hz.1 23 (o := Ob.on) (by decide) (by decide) rfl vf'.1 vf'.2
    rw [ef', oz] at k23'
    refine ⟨fun q _ _ _ x ex => fin 0 x (Or.inl rfl) ?_ ex, fun q _ _ _ x ex => fin 1 x (Or.inr rfl) ?_ ex⟩
    · rw [decide_eq_false (show ¬ Ob.lft (oc v a) = Ob.on from fun e => q (k23'.mpr e))]; rfl
    · rw [decide_eq_true (k23'.mp (Decidable.not_not.mp q))]; rfl
  refine ⟨fun c => by omega, fun _ => ⟨fun c => by omega, fun _ => ⟨fun c => by omega, fun _ => ⟨fun c => by omega, fun _ => ⟨fun c => by omega, fun _ => ⟨fun c => by omega, fun _ => ⟨fun _ => turn, fun _ => ⟨fun _ => turn, fun c => by omega⟩⟩⟩⟩⟩⟩⟩⟩
