-- deps: 748
/-! the class: a clause becomes two; a clause is left -/
def f8Pn (k : Nat) : Bool := f8Jn k || decide (14 ≤ k ∧ k ≤ 15)
def f8Pr (k : Nat) : Bool := f8Jr k || f8C k
theorem f8Jn_P [DecidableEq Ob] : ∀ k, f8Pn k = false → f8Jn k = false := fun k h => by unfold f8Pn at h; exact (Bool.or_eq_false_iff.mp h).1
theorem f8Jr_P [DecidableEq Ob] : ∀ k, f8Pr k = false → f8Jr k = false := fun k h => by unfold f8Pr at h; exact (Bool.or_eq_false_iff.mp h).1
theorem f8C_P [DecidableEq Ob] : ∀ k, f8Pr k = false → f8C k = false := fun k h => by unfold f8Pr at h; exact (Bool.or_eq_false_iff.mp h).2
theorem f8B_P [DecidableEq Ob] : ∀ k, f8Pn k = false → f8B k = false := fun k h => f8B_J k (f8Jn_P k h)
theorem f8W_P [DecidableEq Ob] : ∀ k, f8Pr k = false → f8W k = false := fun k h => f8W_J k (f8Jr_P k h)
theorem f8T_P [DecidableEq Ob] : ∀ k, f8Pn k = false → f8T k = false := fun k h => f8T_J k (f8Jn_P k h)
theorem f80_P [DecidableEq Ob] : ∀ k, f8Pn k = false → f80 k = false := fun _ _ => rfl
/-- clauses that are as they were -/
def OtC [DecidableEq Ob] (P : Int → Prop) (u v : iST) : Prop := ∀ j, P j → v.2.1 46 j = u.2.1 46 j ∧ v.2.1 47 j = u.2.1 47 j ∧ v.2.1 48 j = u.2.1 48 j ∧ ∀ i, 0 ≤ i → i < 30 → v.2.1 49 (30 * j + i) = u.2.1 49 (30 * j + i)
theorem OtC.rf [DecidableEq Ob] {P : Int → Prop} {u : iST} : OtC P u u := fun _ _ => ⟨rfl, rfl, rfl, fun _ _ _ => rfl⟩
theorem OtC.tr [DecidableEq Ob] {P : Int → Prop} {u v w : iST} (h : OtC P u v) (g : OtC P v w) : OtC P u w := fun j hj => ⟨(g j hj).1.trans (h j hj).1, (g j hj).2.1.trans (h j hj).2.1, (g j hj).2.2.1.trans (h j hj).2.2.1, fun i i0 i1 => ((g j hj).2.2.2 i i0 i1).trans ((h j hj).2.2.2 i i0 i1)⟩
theorem OtC.sub [DecidableEq Ob] {P P' : Int → Prop} {u v : iST} (h : OtC P u v) (hs : ∀ j, P' j → P j) : OtC P' u v := fun j hj => h j (hs j hj)
theorem OtC.of [DecidableEq Ob] {P : Int → Prop} {u v : iST} (h : ∀ k, 46 ≤ k → k ≤ 49 → v.2.1 k = u.2.1 k) : OtC P u v := fun j _ => ⟨by rw [h 46 (by decide) (by decide)], by rw [h 47 (by decide) (by decide)], by rw [h 48 (by decide) (by decide)], fun i _ _ => by rw [h 49 (by decide) (by decide)]⟩
theorem CkC.ot [DecidableEq Ob] {c : Int} {u v : iST} (h : CkC c u v) {P : Int → Prop} (hP : ∀ j, P j → j ≠ c) : OtC P u v := fun j hj => ⟨(h.2.2.1 j (hP j hj)).1, (h.2.2.1 j (hP j hj)).2.1, (h.2.2.1 j (hP j hj)).2.2, fun i i0 i1 => h.2.2.2 _ (by have := hP j hj; rcases Int.lt_or_gt_of_ne this with q | q <;> omega)⟩
theorem OtC.cl [DecidableEq Ob] {P : Int → Prop} {n r : Nat → Bool} {u v : iST} {E : Sp.Env} {c : Int} (h : OtC P u v) (hT : CT u) (g : CG n r u v) (hc : P c) (hC : ClW u E c) : ClW v E c ∧ clC v c = clC u c ∧ v.2.1 48 c = u.2.1 48 c := by
  obtain ⟨a, b, d, e⟩ := h c hc
  have hl := hC.1
  have el : clC v c = clC u c := by
    unfold clC lsC
    rw [a]
    refine List.map_congr_left (fun i hi => ?_)
    have hi := List.mem_range.mp hi
    rw [e _ (by omega) (by omega)]
    exact ((hC.2.1 (i : Int) (by omega) (by omega)).up hT g).2
  refine ⟨⟨by rw [a]; exact hl, fun i i0 i1 => ?_, by rw [el]; exact hC.2.2.1, by rw [b, el]; exact hC.2.2.2⟩, el, d⟩
  rw [a] at i1
  rw [e i i0 (by omega)]
  exact ((hC.2.1 i i0 i1).up hT g).1
theorem f8W_cl [DecidableEq Ob] : ∀ k, 46 ≤ k → k ≤ 49 → f8W k = false := fun k h1 h2 => by
  have : k = 46 ∨ k = 47 ∨ k = 48 ∨ k = 49 := by omega
  rcases this with q | q | q | q <;> rw [q] <;> rfl
theorem f8B_rows [DecidableEq Ob] {u v : iST} (g : CG f8B f8W u v) : ∀ k, 46 ≤ k → k ≤ 49 → v.2.1 k = u.2.1 k := fun k h1 h2 => g.2.2.2 k (f8W_cl k h1 h2)
theorem CG.dd' [DecidableEq Ob] {B : Int} {δ : Nat} {n r : Nat → Bool} {u v : iST} {s : Sp.Wk} (_ : CG n r u v) (h30 : v.1 30 = u.1 30) (h31 : v.1 31 = u.1 31) (h32 : v.1 32 = u.1 32) (h : Dd_d B δ u s) (h29 : v.1 29 = u.1 29) : Dd_d B δ v s := ⟨by rw [h32]; exact h.1, by have := h.2.1; unfold StS StC at this ⊢; rw [h30, h31]; exact this, by rw [h29]; exact h.2.2⟩
theorem CG.dd [DecidableEq Ob] {B : Int} {δ : Nat} {n r : Nat → Bool} {u v : iST} {s : Sp.Wk} (g : CG n r u v) (h : Dd_d B δ u s) (h30 : n 30 = false) (h31 : n 31 = false) (h32 : u.1 32 ≠ 0 → v.1 32 ≠ 0) (h29 : n 29 = false := by rfl) : Dd_d B δ v s := ⟨h32 h.1, h.2.1.cg g h30 h31 rfl, by rw [g.2.2.1 29 h29]; exact h.2.2⟩
theorem pc_split [DecidableEq Ob] {α : Type} {δ : Nat} {c wc x B : Int} {p rd : Nat} {Q : iST → Prop} {u0 v : iST} {E : Sp.Env} {R : EStateM.Result Unit Sp.Wk α} {K : Sp.Out → Sp.M α} (hP : PdK_d B δ f8Pn f8Pr u0 v R (Sp.bd (Sp.splitC ((clC v c).take p) ((clC v c).drop (p + 1)) (oc v x) rd) K)) (fit : Fit (B + 16) R) (hK : ∀ a, Mono (K a)) (hC : ClW v E c) (hp : (p : Int) < v.2.1 46 c) (nx : NdC v E x) (hs : Sp.splits (oc v x) = true) (h32 : v.1 32 = 0) (hwc : v.1 14 = wc) (hcw : c + 1 = 120 + wc) (w10 : 1 ≤ wc ∧ wc < 10) (h48 : v.2.1 48 c = (rd : Int) + 1)
    (hq : ∀ w a b, OtC (fun j => j ≠ c ∧ j ≠ c + 1 ∧ j ≠ 150) v w → CG f8Pn f8Pr v w → w.1 32 = 0 → w.1 14 = wc + 1 → w.1 15 = v.1 15 → (w.1 31 = v.1 31 ∧ w.1 26 = v.1 26 ∧ w.2.1 52 = v.2.1 52) → (ClW w E (c + 1) ∧ clC w (c + 1) = a ∧ Sp.bnd a = true ∧ w.2.1 48 (c + 1) = (rd : Int) + 1) → (ClW w E c ∧ clC w c = b ∧ Sp.bnd b = true ∧ w.2.1 48 c = (rd : Int) + 1) → PdK_d B 0 f8Pn f8Pr u0 w R (K (some (.inl ((a, rd + 1), (b, rd + 1))))) → Q w)
    (hbad : ∀ w, CG f8Pn f8Pr v w → w.1 32 ≠ 0 → (∃ s, Dd_d B 2000 w s ∧ R = .error () s) → Q w) : pv_4_split c (p : Int) x Q v := by
  have hT := hP.1.1
  obtain ⟨s, hl, eR⟩ := hP.live h32
  have qn : Ob.not ≠ Ob.quote := Ob.sym_ne (by decide)
  -- the IF within
  have hif : (Sp.ifIn (oc v x)).isCallOf Ob.ifS = true := by
    unfold Sp.splits at hs
    unfold Sp.ifIn
    by_cases c1 : Ob.isCallOf (oc v x) Ob.not = true
    · rw [if_pos c1]
      rw [Bool.or_eq_true, Bool.and_eq_true] at hs
      rcases hs with q | q
      · have := lft_of q
        rw [lft_of c1] at this
        exact absurd this (Ob.sym_ne (by decide))
      · exact q.2
    · rw [if_neg c1]
      rw [Bool.or_eq_true, Bool.and_eq_true] at hs
      exact hs.resolve_right (fun q => c1 q.1)
  have dB : Dt (if Ob.isCallOf (oc v x) Ob.not then Sp.mkNot (Ob.item (Sp.ifIn (oc v x)) 2) else Sp.ret (Ob.item (Sp.ifIn (oc v x)) 2)) := by
    split
    · exact dt_not _
    · exact dt_ret _
  have dC : Dt (if Ob.isCallOf (oc v x) Ob.not then Sp.mkNot (Ob.item (Sp.ifIn (oc v x)) 3) else Sp.ret (Ob.item (Sp.ifIn (oc v x)) 3)) := by
    split
    · exact dt_not _
    · exact dt_ret _
  have hspl := spl_eq (X := fun a b => ((clC v c).take p ++ [a, b] ++ (clC v c).drop (p + 1)).foldl Sp.putL []) (Y := fun d => ((clC v c).take p ++ [Ob.item (Sp.ifIn (oc v x)) 1, d] ++ (clC v c).drop (p + 1)).foldl Sp.putL []) (r := rd + 1) dB dC (dt_not (Ob.item (Sp.ifIn (oc v x)) 1)) s
  have eC : Sp.splitC ((clC v c).take p) ((clC v c).drop (p + 1)) (oc v x) rd = splC (if Ob.isCallOf (oc v x) Ob.not then Sp.mkNot (Ob.item (Sp.ifIn (oc v x)) 2) else Sp.ret (Ob.item (Sp.ifIn (oc v x)) 2)) (if Ob.isCallOf (oc v x) Ob.not then Sp.mkNot (Ob.item (Sp.ifIn (oc v x)) 3) else Sp.ret (Ob.item (Sp.ifIn (oc v x)) 3)) (Sp.mkNot (Ob.item (Sp.ifIn (oc v x)) 1)) (fun a b => ((clC v c).take p ++ [a, b] ++ (clC v c).drop (p + 1)).foldl Sp.putL []) (fun d => ((clC v c).take p ++ [Ob.item (Sp.ifIn (oc v x)) 1, d] ++ (clC v c).drop (p + 1)).foldl Sp.putL []) (rd + 1) := rfl
  rw [eC] at eR
  have mnC : Mono (splC (if Ob.isCallOf (oc v x) Ob.not then Sp.mkNot (Ob.item (Sp.ifIn (oc v x)) 2) else Sp.ret (Ob.item (Sp.ifIn (oc v x)) 2)) (if Ob.isCallOf (oc v x) Ob.not then Sp.mkNot (Ob.item (Sp.ifIn (oc v x)) 3) else Sp.ret (Ob.item (Sp.ifIn (oc v x)) 3)) (Sp.mkNot (Ob.item (Sp.ifIn (oc v x)) 1)) (fun a b => ((clC v c).take p ++ [a, b] ++ (clC v c).drop (p + 1)).foldl Sp.putL []) (fun d => ((clC v c).take p ++ [Ob.item (Sp.ifIn (oc v x)) 1, d] ++ (clC v c).drop (p + 1)).foldl Sp.putL []) (rd + 1)) := by
    unfold splC
    have mb : ∀ l, Mono (Sp.bounded l) := fun l => by unfold Sp.bounded; exact Mono.ite Mono.ret Mono.fail
    exact Mono.bd (Mono.ite Mono.not Mono.ret) (fun _ => Mono.bd (Mono.ite Mono.not Mono.ret) (fun _ => Mono.bd Mono.not (fun _ => Mono.bd (mb _) (fun _ => Mono.bd (mb _) (fun _ => Mono.ret)))))
  generalize hmb : (if Ob.isCallOf (oc v x) Ob.not then Sp.mkNot (Ob.item (Sp.ifIn (oc v x)) 2) else Sp.ret (Ob.item (Sp.ifIn (oc v x)) 2)) = mb at hspl eR mnC dB
  generalize hmc : (if Ob.isCallOf (oc v x) Ob.not then Sp.mkNot (Ob.item (Sp.ifIn (oc v x)) 3) else Sp.ret (Ob.item (Sp.ifIn (oc v x)) 3)) = mc at hspl eR mnC dC
  generalize hX : (fun a b => ((clC v c).take p ++ [a, b] ++ (clC v c).drop (p + 1)).foldl Sp.putL []) = X at hspl eR mnC
  generalize hY : (fun d => ((clC v c).take p ++ [Ob.item (Sp.ifIn (oc v x)) 1, d] ++ (clC v c).drop (p + 1)).foldl Sp.putL []) = Y at hspl eR mnC
  generalize hR2 : splD mb mc (Sp.mkNot (Ob.item (Sp.ifIn (oc v x)) 1)) X Y (rd + 1) s = R2 at hspl
  have fit2 : Fit B R2 := by
    have hm := Mono.bd mnC hK s
    rw [← eR] at hm
    unfold Fit at fit ⊢
    rcases hspl with ⟨o, s', e1, e2⟩ | ⟨s1, s2, e1, e2, _, _, h8⟩
    · rw [e2]
      rw [bind_ok e1] at eR
      have := hK o s'
      rw [← eR] at this
      show B + (s'.2 : Int) ≤ 160000
      omega
    · rw [e2]
      show B + (s2.2 : Int) ≤ 160000
      omega
  have mB : Mono mb := by rw [← hmb]; exact Mono.ite Mono.not Mono.ret
  have mC : Mono mc := by rw [← hmc]; exact Mono.ite Mono.not Mono.ret
  have mBo : ∀ l, Mono (Sp.bounded l) := fun l => by unfold Sp.bounded; exact Mono.ite Mono.ret Mono.fail
  have m4 : ∀ (xx : List Ob) (cc : Ob), Mono (Sp.bd (Sp.bounded (Y cc)) fun y => Sp.ret (some (.inl ((xx, rd + 1), (y, rd + 1)))) : Sp.M Sp.Out) := fun xx cc => Mono.bd (mBo _) (fun _ => Mono.ret)
  have m3 : ∀ (xx : List Ob), Mono (Sp.bd mc fun cc => Sp.bd (Sp.bounded (Y cc)) fun y => Sp.ret (some (.inl ((xx, rd + 1), (y, rd + 1)))) : Sp.M Sp.Out) := fun xx => Mono.bd mC (fun cc => m4 xx cc)
  have m2 : ∀ a b : Ob, Mono (Sp.bd (Sp.bounded (X a b)) fun xx => Sp.bd mc fun cc => Sp.bd (Sp.bounded (Y cc)) fun y => Sp.ret (some (.inl ((xx, rd + 1), (y, rd + 1)))) : Sp.M Sp.Out) := fun a b => Mono.bd (mBo _) (fun xx => m3 xx)
  have hP2 : PdK_d B 0 f8Pn f8Pr u0 v R2 (splD mb mc (Sp.mkNot (Ob.item (Sp.ifIn (oc v x)) 1)) X Y (rd + 1)) := ⟨hP.1, Or.inl ⟨s, hl, hR2.symm⟩⟩
  unfold splD at hP2
  -- it has failed
  have dead : ∀ w, CG f8Pn f8Pr v w → (∃ s, Dd_d B 1900 w s ∧ R2 = .error () s) → Q w := by
    rintro w gw ⟨s2, hd, e2⟩
    refine hbad w gw hd.1 ?_
    rcases hspl with ⟨o, s', _, e2'⟩ | ⟨s1, s2', e1, e2', h1, h2, h8⟩
    · rw [e2] at e2'; cases e2'
    · rw [e2] at e2'
      injection e2' with _ e2'
      have hm := mnC s
      rw [e1] at hm
      have hm : s.2 ≤ s1.2 := hm
      refine ⟨s1, ⟨hd.1, ?_, by have h4 := hd.2.2; rw [e2'] at h4; omega⟩, by rw [eR]; exact bind_err e1⟩
      have h3 := hd.2.1
      unfold StS StC at h3 ⊢
      rw [h1, ← h2, ← e2']
      exact h3
  have d157 : ∀ w a b, CG f8Pn f8Pr v w → (∃ s, Dd_d B 1900 w s ∧ R2 = .error () s) → pv_4_split_157 Q c 150 c (p : Int) a b w := by
    rintro w a b gw ⟨s2, hd, e2⟩
    unfold pv_4_split_157
    refine pc_fillSplitD gw.1 hd.1 (fun y gy _ => pc_copyD gy.1 (fun z gz _ => ?_))
    have g2 := gy.tr gz
    intro n13 en13 _ _ z2 ez2
    have g3 : CG f8Pn f8Pr z z2 := by rw [ez2]; exact CG_I gz.1 (by decide) (by decide)
    have g4 : CG f8Pn f8Pr w z2 := (g2.mono f80_P f8C_P).tr g3
    refine dead z2 (gw.tr g4) ⟨s2, g4.dd' (by rw [ez2]; exact g2.2.2.1 30 rfl) (by rw [ez2]; exact g2.2.2.1 31 rfl) (by rw [ez2]; exact g2.2.2.1 32 rfl) hd (by rw [ez2]; exact g2.2.2.1 29 rfl), e2⟩
  have d126 : ∀ w r1 a b test no, NdC v E no → CG f8Pn f8Pr v w → (∃ s, Dd_d B 1600 w s ∧ R2 = .error () s) → pv_4_split_126 Q c (p : Int) r1 test no (120 + wc) c (p : Int) a b w := by
    rintro w r1 a b test no nno gw ⟨s2, hd, e2⟩
    unfold pv_4_split_126
    refine pc_fillSplitD gw.1 hd.1 (fun y gy _ => ?_)
    have gvy : CG f8Pn f8Pr v y := gw.tr (gy.mono f80_P f8C_P)
    have hdy : Dd_d B 1600 y s2 := gy.dd hd rfl rfl (fun h => by rw [gy.2.2.1 32 rfl]; exact h)
    refine ⟨fun _ => d157 y _ _ gvy ⟨s2, hdy.up, e2⟩, fun _ => ?_⟩
    have hPd : PdK_d B 1600 f8Pn f8Pr u0 y R2 (Sp.bd (Sp.mkNot (oc y no)) (fun o => Sp.ret none)) := ⟨hP.1.tr gvy, Or.inr ⟨s2, hdy, e2⟩⟩
    refine pc_negated_d hPd f8B_P f8W_P fit2 (fun _ => Mono.ret) (nno.up hT gvy).1 (fun o z gz zd nt hPz _ => ?_)
    exact d157 z _ _ (gvy.tr (gz.mono f8B_P f8W_P)) (hPz.dead (zd hdy.1))
  -- the items
  have go : ∀ (r1 y0 : Int), NdC v E y0 → oc v y0 = Sp.ifIn (oc v x) → bq r1 (Ob.isCallOf (oc v x) Ob.not) → pv_4_split_30 Q c (p : Int) r1 y0 v := by
    intro r1 y0 ny ey hr1
    unfold pv_4_split_30
    refine pc_it hT ny (by rw [ey]; exact hif) ifq' (arOf_ifS E) (by decide) (by decide) (fun t1 nt1 et1 => pc_it hT ny (by rw [ey]; exact hif) ifq' (arOf_ifS E) (by decide) (by decide) (fun t2 nt2 et2 => pc_it hT ny (by rw [ey]; exact hif) ifq' (arOf_ifS E) (by decide) (by decide) (fun t3 nt3 et3 => ?_)))
    have et1 : oc v t1 = Ob.item (Sp.ifIn (oc v x)) 1 := by rw [et1, ey]; rfl
    have et2 : oc v t2 = Ob.item (Sp.ifIn (oc v x)) 2 := by rw [et2, ey]; rfl
    have et3 : oc v t3 = Ob.item (Sp.ifIn (oc v x)) 3 := by rw [et3, ey]; rfl
    rw [← et1] at hP2
    intro n5 en5 _
    rw [en5, hwc]
    refine ⟨fun _ => ?_, fun z => by omega⟩
    intro n6 en6 _ _ _
    rw [en6]
    refine pc_negated_d hP2 f8B_P f8W_P fit2 (fun a => Mono.bd mB (fun b => m2 a b)) nt1 (fun a1 w1 gw1 wd1 na1 hP3 _ => ?_)
    -- the last of it
    have last : ∀ w3 o3, CG f8Pn f8Pr v w3 → OtC (fun j => j ≠ c + 1) v w3 → w3.1 14 = wc → w3.1 15 = v.1 15 → (w3.1 31 = v.1 31 ∧ w3.1 26 = v.1 26 ∧ w3.2.1 52 = v.2.1 52) → ∀ xx, (w3.1 32 = 0 → ClW w3 E (c + 1) ∧ clC w3 (c + 1) = xx ∧ Sp.bnd xx = true ∧ w3.2.1 48 (c + 1) = (rd : Int) + 1) → NdD w3 E o3 → PdK_d B 300 f8Pn f8Pr u0 w3 R2 (Sp.bd (Sp.bounded (Y (oc w3 o3))) fun y => Sp.ret (some (.inl ((xx, rd + 1), (y, rd + 1))))) → pv_4_split_157 Q c 150 c (p : Int) t1 o3 w3 := by
      intro w3 o3 g3 ot3 h14 h15 h31 xx hx n3 hP4
      by_cases w32 : w3.1 32 = 0
      rotate_left
      · exact d157 w3 _ _ g3 (hP4.dead w32)
      obtain ⟨hX1, hX2, hX3, hX4⟩ := hx w32
      obtain ⟨hC3, eC3, h483⟩ := ot3.cl hT g3 (by omega) hC
      obtain ⟨nt1w, et1w⟩ := nt1.up hT g3
      have n3' := n3.2.2 w32
      obtain ⟨s3, hl3, e3⟩ := hP4.live w32
      unfold pv_4_split_157
      have hYe : ((clC w3 c).take p ++ [oc w3 t1, oc w3 o3] ++ (clC w3 c).drop (p + 1)).foldl Sp.putL [] = Y (oc w3 o3) := by rw [eC3, et1w, et1, ← hY]
      refine pc_fillSplit (f := c) (m := 150) g3.1 (by omega) hC3 (by rw [(ot3 c (by omega)).1]; exact hp) nt1w n3' w32 (fun y ky yn hWy ey' hby h48y => ?_) (fun y gy y32 hby _ => ?_)
      rotate_left
      · rw [hYe] at hby
        have hdy : Dd_d B 1900 y s3 := ⟨y32, hl3.2.1.cg gy (by decide) (by decide) rfl, by have h1 := hl3.2.2; have h2 := gy.2.2.1 29 (by decide); omega⟩
        have e4 : R2 = .error () s3 := by
          rcases dt_bounded (Y (oc w3 o3)) with ⟨q, _⟩ | ⟨_, q⟩
          · rw [q] at hby; cases hby
          · rw [e3]; exact bind_err (q s3)
        refine pc_copyD gy.1 (fun z gz _ => ?_)
        intro n13 en13 _ _ z2 ez2
        have g5 : CG f8Pn f8Pr z z2 := by rw [ez2]; exact CG_I gz.1 (by decide) (by decide)
        have g6 : CG f8Pn f8Pr y z2 := (gz.mono f80_P f8C_P).tr g5
        exact dead z2 ((g3.tr (gy.mono f8T_P f8C_P)).tr g6) ⟨s3, g6.dd' (by rw [ez2]; exact gz.2.2.1 30 rfl) (by rw [ez2]; exact gz.2.2.1 31 rfl) (by rw [ez2]; exact gz.2.2.1 32 rfl) hdy (by rw [ez2]; exact gz.2.2.1 29 rfl), e4⟩
      rw [hYe] at ey'
      rw [ey'] at hby
      have e4 : R2 = .ok (some (.inl ((xx, rd + 1), (Y (oc w3 o3), rd + 1)))) s3 := by
        rcases dt_bounded (Y (oc w3 o3)) with ⟨_, q⟩ | ⟨q, _⟩
        · rw [e3]; exact bind_ok (q s3)
        · rw [q] at hby; cases hby
      obtain ⟨hCy, eCy, _⟩ := (ky.ot (P := fun j => j = c) (fun j hj => by omega)).cl g3.1 ky.1 rfl hC3
      refine pc_copy1 (E := E) ky.1.1 (a := 150) (c := c) (by omega) hWy (fun z kz zn hWz ez h48z => ?_)
      intro n13 en13 _ _ z2 ez2
      have gz2 : CG f8Pn f8Pr z z2 := by rw [ez2]; exact CG_I kz.1.1 (by decide) (by decide)
      have z2r : z2.2 = z.2 := by rw [ez2]; rfl
      have z2n : ∀ k, k ≠ 14 → z2.1 k = w3.1 k := fun k hk => by rw [ez2]; show (if k = 14 then _ else z.1 k) = _; rw [if_neg hk, zn, yn]
      have z14 : z2.1 14 = wc + 1 := by rw [ez2]; show n13 + 1 = _; rw [en13, zn, yn, h14]
      have g7 : CG f8Pn f8Pr w3 z2 := ((ky.1.mono f80_P f8C_P).tr (kz.1.mono f80_P f8C_P)).tr gz2
      have ot7 : OtC (fun j => j ≠ c ∧ j ≠ 150) w3 z2 := ((ky.ot (fun j hj => hj.2)).tr (kz.ot (fun j hj => hj.1))).tr (OtC.of (fun k _ _ => by rw [z2r]))
      have hsame : ∀ {j}, ClW z E j → ClW z2 E j ∧ clC z2 j = clC z j := fun {j} h => h.up kz.1.1 gz2 (fun k _ _ => by rw [z2r])
      obtain ⟨hX1', eX1', h48'⟩ := ot7.cl g3.1 g7 (c := c + 1) ⟨by omega, by omega⟩ hX1
      obtain ⟨hWz2, eWz2⟩ := hsame hWz
      refine hq z2 xx (Y (oc w3 o3)) ((ot3.sub (fun j hj => hj.2.1)).tr (ot7.sub (fun j hj => ⟨hj.1, hj.2.2⟩))) (g3.tr g7) (by rw [z2n 32 (by decide)]; exact w32) z14 (by rw [z2n 15 (by decide)]; exact h15) ⟨by rw [z2n 31 (by decide)]; exact h31.1, by rw [z2n 26 (by decide)]; exact h31.2.1, by rw [z2r, kz.1.2.2.2 52 (by decide), ky.1.2.2.2 52 (by decide)]; exact h31.2.2⟩ ⟨hX1', by rw [eX1']; exact hX2, hX3, by rw [h48']; exact hX4⟩ ⟨hWz2, by rw [eWz2, ez, ey'], hby, ?_⟩ ?_
      · rw [z2r, h48z, h48y, h483]; exact h48
      · rcases hspl with ⟨o, s', e1, e2'⟩ | ⟨_, s2', _, e2', _⟩
        · rw [e4] at e2'
          injection e2' with q1 q2
          rw [bind_ok e1, ← q1, ← q2] at eR
          refine ⟨hP.1.tr (g3.tr g7), Or.inl ⟨s3, ⟨by rw [z2n 32 (by decide)]; exact w32, ?_, ?_⟩, eR⟩⟩
          · have := hl3.2.1
            unfold StS StC at this ⊢
            rw [z2n 31 (by decide), z2n 30 (by decide)]
            exact this
          · rw [z2n 29 (by decide)]; exact hl3.2.2
        · rw [e4] at e2'; cases e2'
    -- the first of the two
    have first : ∀ w2 a2, CG f8B f8W w1 w2 → (w1.1 32 ≠ 0 → w2.1 32 ≠ 0) → NdD w2 E a2 → PdK_d B 600 f8Pn f8Pr u0 w2 R2 (Sp.bd (Sp.bounded (X (oc w1 a1) (oc w2 a2))) fun xx => Sp.bd mc fun cc => Sp.bd (Sp.bounded (Y cc)) fun y => Sp.ret (some (.inl ((xx, rd + 1), (y, rd + 1))))) → pv_4_split_126 Q c (p : Int) r1 t1 t3 (120 + wc) c (p : Int) a1 a2 w2 := by
      intro w2 a2 gw2 wd2 na2 hP4
      have g12 : CG f8B f8W v w2 := gw1.tr gw2
      have gv2 : CG f8Pn f8Pr v w2 := g12.mono f8B_P f8W_P
      by_cases w32 : w2.1 32 = 0
      rotate_left
      · exact d126 w2 _ _ _ _ _ nt3 gv2 (hP4.dead w32)
      have w132 : w1.1 32 = 0 := by
        by_cases q : w1.1 32 = 0
        · exact q
        · exact absurd w32 (wd2 q)
      obtain ⟨na1', ea1'⟩ := (na1.2.2 w132).up gw1.1 gw2
      have na2' := na2.2.2 w32
      obtain ⟨hC2, eC2⟩ := hC.up hT g12 (f8B_rows g12)
      obtain ⟨s3, hl3, e3⟩ := hP4.live w32
      have hXe : ((clC w2 c).take p ++ [oc w2 a1, oc w2 a2] ++ (clC w2 c).drop (p + 1)).foldl Sp.putL [] = X (oc w1 a1) (oc w2 a2) := by rw [eC2, ea1', ← hX]
      have h482 : w2.2.1 48 c = (rd : Int) + 1 := by rw [f8B_rows g12 48 (by decide) (by decide)]; exact h48
      unfold pv_4_split_126
      refine pc_fillSplit (f := c) (m := 120 + wc) g12.1 (by omega) hC2 (by rw [f8B_rows g12 46 (by decide) (by decide)]; exact hp) na1' na2' w32 (fun y ky yn hWy ey' hby h48y => ?_) (fun y gy y32 hby _ => ?_)
      rotate_left
      · rw [hXe] at hby
        have hdy : Dd_d B 1600 y s3 := ⟨y32, hl3.2.1.cg gy (by decide) (by decide) rfl, by have h1 := hl3.2.2; have h2 := gy.2.2.1 29 (by decide); omega⟩
        have e4 : R2 = .error () s3 := by
          rcases dt_bounded (X (oc w1 a1) (oc w2 a2)) with ⟨q, _⟩ | ⟨_, q⟩
          · rw [q] at hby; cases hby
          · rw [e3]; exact bind_err (q s3)
        have gvy : CG f8Pn f8Pr v y := gv2.tr (gy.mono f8T_P f8C_P)
        refine ⟨fun _ => d157 y _ _ gvy ⟨s3, hdy.up, e4⟩, fun _ => ?_⟩
        have hPd : PdK_d B 1600 f8Pn f8Pr u0 y R2 (Sp.bd (Sp.mkNot (oc y t3)) (fun o => Sp.ret none)) := ⟨hP.1.tr gvy, Or.inr ⟨s3, hdy, e4⟩⟩
        refine pc_negated_d hPd f8B_P f8W_P fit2 (fun _ => Mono.ret) (nt3.up hT gvy).1 (fun o z gz zd nt hPz _ => ?_)
        exact d157 z _ _ (gvy.tr (gz.mono f8B_P f8W_P)) (hPz.dead (zd hdy.1))
      rw [hXe] at ey'
      rw [ey'] at hby
      have e4 : R2 = Sp.bd mc (fun cc => Sp.bd (Sp.bounded (Y cc)) fun y => Sp.ret (some (.inl ((X (oc w1 a1) (oc w2 a2), rd + 1), (y, rd + 1))))) s3 := by
        rcases dt_bounded (X (oc w1 a1) (oc w2 a2)) with ⟨_, q⟩ | ⟨q, _⟩
        · rw [e3]; exact bind_ok (q s3)
        · rw [q] at hby; cases hby
      have gvy : CG f8Pn f8Pr v y := gv2.tr (ky.1.mono f80_P f8C_P)
      have y32 : y.1 32 = 0 := by rw [yn]; exact w32
      have hP5 : PdK_d B 0 f8Pn f8Pr u0 y R2 (Sp.bd mc (fun cc => Sp.bd (Sp.bounded (Y cc)) fun y => Sp.ret (some (.inl ((X (oc w1 a1) (oc w2 a2), rd + 1), (y, rd + 1)))))) := ⟨hP.1.tr gvy, Or.inl ⟨s3, ⟨y32, hl3.2.1.cg ky.1 rfl rfl rfl, by rw [yn]; exact hl3.2.2⟩, e4⟩⟩
      have ec1 : (120 + wc : Int) = c + 1 := by omega
      rw [ec1] at hWy ey' h48y ky
      have oty : OtC (fun j => j ≠ c + 1) v y := (OtC.of (f8B_rows g12)).tr (ky.ot (fun j hj => hj))
      have y14 : y.1 14 = wc := by rw [yn, g12.2.2.1 14 (by decide)]; exact hwc
      have y15 : y.1 15 = v.1 15 := by rw [yn, g12.2.2.1 15 (by decide)]
      have y31 : y.1 31 = v.1 31 ∧ y.1 26 = v.1 26 ∧ y.2.1 52 = v.2.1 52 := ⟨by rw [yn, g12.2.2.1 31 (by decide)], by rw [yn, g12.2.2.1 26 (by decide)], by rw [ky.1.2.2.2 52 (by decide), g12.2.2.2 52 (by decide)]⟩
      obtain ⟨nt3y, et3y⟩ := nt3.up hT gvy
      have hx : ClW y E (c + 1) ∧ clC y (c + 1) = X (oc w1 a1) (oc w2 a2) ∧ Sp.bnd (X (oc w1 a1) (oc w2 a2)) = true ∧ y.2.1 48 (c + 1) = (rd : Int) + 1 := ⟨hWy, ey', hby, by rw [h48y]; exact h482⟩
      refine ⟨fun z => ?_, fun z => ?_⟩
      · rw [← hmc, if_neg (by rw [hr1.f z]; decide), ← et3, ← et3y] at hP5
        exact last y t3 gvy oty y14 y15 y31 _ (fun _ => hx) nt3y.d hP5.retd.w
      · rw [← hmc, if_pos (hr1.t z), ← et3, ← et3y] at hP5
        refine pc_negated_d hP5 f8B_P f8W_P fit2 (fun cc => m4 _ cc) nt3y (fun o3 w3 gw3 wd3 n3 hP6 _ => ?_)
        have otw := oty.tr (OtC.of (P := fun j => j ≠ c + 1) (f8B_rows gw3))
        refine last w3 o3 (gvy.tr (gw3.mono f8B_P f8W_P)) otw (by rw [gw3.2.2.1 14 (by decide)]; exact y14) (by rw [gw3.2.2.1 15 (by decide)]; exact y15) ⟨by rw [gw3.2.2.1 31 (by decide)]; exact y31.1, by rw [gw3.2.2.1 26 (by decide)]; exact y31.2.1, by rw [gw3.2.2.2 52 (by decide)]; exact y31.2.2⟩ _ (fun _ => ?_) n3 hP6
        obtain ⟨q1, q2⟩ := hWy.up ky.1.1 gw3 (f8B_rows gw3)
        exact ⟨q1, by rw [q2]; exact ey', hby, by rw [f8B_rows gw3 48 (by decide) (by decide)]; exact hx.2.2.2⟩
    obtain ⟨nt2w, et2w⟩ := nt2.up hT gw1
    refine ⟨fun z => ?_, fun z => ?_⟩
    · rw [← hmb, if_neg (by rw [hr1.f z]; decide), ← et2, ← et2w] at hP3
      exact first w1 t2 (CG.rf gw1.1) id nt2w.d hP3.retd.w
    · rw [← hmb, if_pos (hr1.t z), ← et2, ← et2w] at hP3
      exact pc_negated_d hP3 f8B_P f8W_P fit2 (fun b => m2 _ b) nt2w (fun a2 w2 gw2 wd2 na2 hP4 _ => first w2 a2 gw2 wd2 na2 hP4)
  unfold pv_4_split
  refine pc_isCallK 16 hT nx.1 (by decide) (by decide) (o := Ob.not) rfl (fun r1 hr1 => ⟨fun z => go r1 x nx ?_ hr1, fun z => ?_⟩)
  · unfold Sp.ifIn
    rw [if_neg (by rw [hr1.f z]; decide)]
  · have hn := hr1.t z
    refine pc_it hT nx hn qn (arOf_not E) (by decide) (by decide) (fun y0 ny ey => go r1 y0 ny ?_ hr1)
    unfold Sp.ifIn
    rw [if_pos hn]
    exact ey
