-- deps: 546
/-! the reference: (cut T PROOF PROOF) -/
theorem isNeg_neg [DecidableEq Ob] {E : Sp.Env} {y L : Ob} (wy : Ob.wt (Sp.arOf E) y) : Sp.isNeg y L = decide (y = Ob.neg L) := by
  unfold Sp.isNeg Ob.neg
  by_cases c1 : Ob.isCallOf L Ob.not = true
  · rw [if_pos c1, if_pos c1]
  rw [if_neg c1, if_neg c1]
  by_cases c2 : Ob.isConst L = true
  · rw [if_pos c2]
    by_cases c3 : L = Ob.nil
    · rw [if_pos c3, if_pos c3]
    · rw [if_neg c3, if_neg c3, if_pos c2]
  · have c3 : L ≠ Ob.nil := fun z => c2 (by
      rw [z]
      show (Ob.isNat Ob.nil || decide (Ob.nil = Ob.nil) || decide (Ob.nil = Ob.t)) = true
      rw [decide_eq_true rfl, Bool.or_true, Bool.true_or])
    rw [if_neg c2, if_neg c3, if_neg c2]
    cases e : Ob.isCallOf y Ob.not with
    | false =>
      refine (decide_eq_false (fun z => ?_)).symm
      rw [z, Ob.isCallOf_pr] at e
      exact absurd rfl (of_decide_eq_false e)
    | true =>
      obtain ⟨x, ey, _⟩ := Ob.wt_one wy e not_q (arOf_not E)
      rw [ey]
      show decide (x = L) = _
      by_cases cx : x = L
      · rw [decide_eq_true cx, cx, decide_eq_true rfl]
      · rw [decide_eq_false cx]
        exact (decide_eq_false (fun z => cx (Ob.pr.inj (Ob.pr.inj z).2).1)).symm
theorem cc_cut [DecidableEq Ob] {a c : Int} {Q : Int → iST → Prop} {u v : iST} {E : Sp.Env} {R : EStateM.Result Unit Sp.Wk (List Ob)} {o : Ob} {cs : List (List Ob)} (hP : PdC u v E R (Sp.concl E o cs)) (hd : dfl v = []) (h71 : 0 ≤ u.1 71) (h61 : v.1 61 = 0) (h : Ob.lft o = Ob.cut) (na : Nd v E a) (ra : Sp.rdAt E o 1 = some (ob v a)) (hC : ClzOk v E c) (hC1 : ClzOk v E (c + 1)) (hc : cs.getD 0 [] = clz v c) (hc1 : cs.getD 1 [] = clz v (c + 1)) (hz : ∀ y, y ∈ clz v (c + 1) → y.sz ≤ 120) (hq : ∀ r w, CcO u w E R r → Q r w) :
    pw_notOf a (fun v62 u => pw_has c a (fun v63 u => br (v63 = 0) (ztp 0 (Q 0 u)) (ovp (c + 1) (pw_has (c + 1) v62 (fun v65 u => br (v65 ≠ 0) (pw_pour c a (fun u => ovp (c + 1) (pw_pour (c + 1) v62 (fun u => ztp 1 (Q 1 u)) u)) u) (ztp 0 (Q 0 u))) u))) u) v := by
  have hT := hP.1.1
  have hU := hP.1.2.1
  rw [concl_cut h, ra, Option.getD_some, hc, hc1] at hP
  -- each literal of the second is well formed
  have w1 : ∀ y, y ∈ clz v (c + 1) → Ob.wt (Sp.arOf E) y := fun y hy => by
    have c0 := hC1.1
    obtain ⟨i, i1, i2⟩ := ls_mem.mp hy
    rw [← i2]; exact (hC1.2.2 (i : Int) (by omega) (by omega)).2.2.2
  have hany : (clz v (c + 1)).any (fun y => Sp.isNeg y (ob v a)) = Ob.has (clz v (c + 1)) (Ob.neg (ob v a)) := by
    cases e : Ob.has (clz v (c + 1)) (Ob.neg (ob v a)) with
    | true =>
      have hm := Ob.has_iff.mp e
      exact List.any_eq_true.mpr ⟨_, hm, by rw [isNeg_neg (w1 _ hm)]; exact decide_eq_true rfl⟩
    | false =>
      refine Bool.eq_false_iff.mpr (fun z => ?_)
      obtain ⟨y, hy, hn⟩ := List.any_eq_true.mp z
      rw [isNeg_neg (w1 _ hy)] at hn
      rw [of_decide_eq_true hn] at hy
      rw [Ob.has_iff.mpr hy] at e
      cases e
  rw [hany] at hP
  refine p_notG hT hU (by rw [hP.2.1]; exact h71) na (0, 0) (fun t w gw nt et _ _ ft => ?_)
  obtain ⟨cw, ecw⟩ := hC.fx hT gw.1 (by decide) (by decide)
  obtain ⟨cw1, ecw1⟩ := hC1.fx hT gw.1 (by decide) (by decide)
  obtain ⟨naw, eaw⟩ := na.mono hT gw.1
  obtain ⟨d2, l2⟩ := hP.2.2.1.mono hT gw.1 (by decide) (by decide)
  have hW : PdC u w E R (if (Ob.has (clz v c) (ob v a) && Ob.has (clz v (c + 1)) (Ob.neg (ob v a))) = true then Sp.ret (((clz v c).filter (fun x => decide (x ≠ ob v a)) ++ (clz v (c + 1)).filter (fun y => !Sp.isNeg y (ob v a))).foldl Sp.putL []) else Sp.fail) := by
    by_cases c6 : w.1 61 = 0
    · exact (hP.gm gw (c6.trans h61.symm)).1
    · obtain ⟨_, s, hs, hR⟩ := hP.2.2.2.resolve_right (fun z => z.1 h61)
      refine ⟨hP.1.tr (gw.1.mono f7M_Cc), gw.2.1.trans hP.2.1, d2, Or.inr ⟨c6, s, hs.gz gw.1 (by decide) (by decide) rfl, ?_⟩⟩
      have big : 120 < (Ob.neg (ob v a)).sz := by
        unfold nb at ft
        by_cases c7 : (ob v a).isCallOf Ob.not = true ∨ (ob v a).isConst = true
        · rw [if_pos c7] at ft; exact absurd (ft.trans h61) c6
        · rw [if_neg c7] at ft
          unfold bw at ft
          rw [if_neg (not_not_intro h61)] at ft
          by_cases c8 : 120 < (Ob.neg (ob v a)).sz
          · exact c8
          · rw [if_neg c8] at ft; exact absurd ft c6
      have hno : Ob.has (clz v (c + 1)) (Ob.neg (ob v a)) = false := by
        refine Bool.eq_false_iff.mpr (fun z => ?_)
        have := hz _ (Ob.has_iff.mp z)
        omega
      rw [hR, hno, Bool.and_false, if_neg (by decide)]
      rfl
  refine p_has gw.1.1 gw.1.2.1 cw naw.1 naw.2.1 (fun r hr => ?_)
  rw [ecw, eaw] at hr
  refine ⟨fun h0 _ => hq 0 w (PdC.fail ?_), fun h0 _ => ?_⟩
  · rw [hr.f h0, Bool.false_and, if_neg (by decide)] at hW
    exact hW
  rw [hr.t h0, Bool.true_and] at hW
  refine p_has gw.1.1 gw.1.2.1 cw1 nt.1 nt.2.1 (fun r2 hr2 => ?_)
  rw [ecw1, et] at hr2
  refine ⟨fun h2 => ?_, fun h2 _ => hq 0 w (PdC.fail ?_)⟩
  rotate_left
  · rw [hr2.f (Decidable.not_not.mp h2), if_neg (by decide)] at hW
    exact hW
  rw [if_pos (hr2.t h2)] at hW
  refine p_pourP (keep := fun x => decide (x ≠ ob v a)) hW cw (fun i i0 i1 => ?_) (fun z gz lz pz => ?_)
  · have ni := cw.2.2 i i0 i1
    have := gw.1.1.inj gw.1.2.1 ni.1 ni.2.1 naw.1 naw.2.1
    rw [← this, eaw]
    exact ⟨fun q => decide_eq_false (fun q' => q' q), fun q => Decidable.not_not.mp (of_decide_eq_false q)⟩
  obtain ⟨cz1, ecz1⟩ := cw1.fx gw.1.1 gz (by decide) (by decide)
  obtain ⟨ntz, etz⟩ := nt.mono gw.1.1 gz
  intro _
  refine p_pourP (keep := fun y => !Sp.isNeg y (ob v a)) pz cz1 (fun i i0 i1 => ?_) (fun z2 gz2 lz2 pz2 _ => hq 1 z2 (PdC.fin pz2 ?_))
  · have ni := cz1.2.2 i i0 i1
    have := gz.1.inj gz.2.1 ni.1 ni.2.1 ntz.1 ntz.2.1
    rw [← this, etz, et, isNeg_neg ni.2.2.2]
    exact ⟨fun q => by rw [decide_eq_true q]; rfl, fun q => of_decide_eq_true (by rw [Bool.not_eq_false'] at q; exact q)⟩
  · rw [lz2, lz, l2, hd, ecz1, ecw1, ecw, List.foldl_append]
