theorem HH.gp {u v w : iST} {c d e : Int} (hu : TI u) (h : HH u v c d) (g : GP v w e) (h61 : w.1 61 = v.1 61) : HH u w (c + e) d := by
  have hF := g.2.2.1
  exact ⟨h.1.gp hu g h61, h.2.1.ext h.1.1 g.1 g.2.1 (fx_s hF 35 rfl) (fx_a hF 36 rfl) (fx_a hF 37 rfl) (fx_a hF 41 rfl) (fx_s hF 42 rfl) (fx_a hF 137 rfl) (fx_a hF 138 rfl) (fx_s hF 139 rfl) (fun z => ⟨by rw [← fx_s hF 136 rfl]; exact z, fx_s hF 133 rfl, fx_s hF 134 rfl⟩), by have := h.2.2; unfold W6 at *; rw [fx_s hF 136 rfl]; exact this⟩
theorem HH.fk {u v w : iST} {c d : Int} (hu : TI u) (h : HH u v c d) (hF : Fx fK v w) (hL : w.2.2 = v.2.2) : HH u w c d ∧ ExtT v w := by
  have hF' : Fx fHq v w := hF.mono (fun k hk => by simp [fHq] at hk; simp [fK]; omega)
  exact ⟨⟨(h.1.fx hu hF' hL).1, h.2.1.fx hu h.1 hF' hL (fx_a hF 137 rfl) (fx_a hF 138 rfl) (fx_s hF 139 rfl) (fun z => ⟨by rw [← fx_s hF 136 rfl]; exact z, fx_s hF 133 rfl, fx_s hF 134 rfl⟩), by have := h.2.2; unfold W6 at *; rw [fx_s hF 136 rfl]; exact this⟩, (h.1.fx hu hF' hL).2⟩
theorem HH.mono {u v : iST} {c d c' d' : Int} (h : HH u v c d) (hc : c ≤ c') (hd : d ≤ d') : HH u v c' d' := ⟨h.1.mono hc, h.2.1.mono hd, h.2.2⟩
theorem g_using {u v : iST} {o c d : Int} {Q : iST → Prop} (hG : GI u) (hC : Core u) (h : HH u v c d) (o0 : 0 ≤ o) (o1 : o < v.1 8) (hw : wA v o + d ≤ 1000) (h28 : v.2.1 0 o = 28) (h8 : v.1 8 + wA v o < 451000) (hq : ∀ w, HH u w (c + wA v o) (d + wA v o) → ExtT v w → Q w) : w_using o Q v := by
  have hu := hG.1
  have vT := h.1.1
  have vm := vT.2.1
  have vG := h.1.gi hG
  have hA : wA v o = 2 + wB v o := wA_pair o0 (by omega) (fun z => by have := z.2.1; omega)
  have po := w_pos vT o0 o1
  have hd1 := h.2.1.1
  have hd2 := h.2.1.2.1
  have hd3 := h.2.1.2.2.2.1
  have fin : ∀ w, HH u w c d → ExtT v w → Q w := fun w hw hE => hq w (hw.mono (by omega) (by omega)) hE
  have wrE : ∀ {a w : iST} {x : Int}, (w = a ∨ w = iI a 136 x) → ExtT a w := fun {a w x} hw => by
    rcases hw with rfl | rfl
    · exact ExtT.rf _
    · exact ExtT.same (fun k hk => ⟨if_neg (by omega), rfl⟩) rfl ⟨rfl, rfl, rfl, rfl, rfl⟩
  have k42 : ∀ a, HH u a c d → ExtT v a → w_using_42 Q a := fun a ha hE => by
    unfold w_using_42
    exact s_wrong hu (by omega) ha fun w hw _ hc => fin w hw (hE.tr vT (wrE hc))
  have bad := k42 v h (ExtT.rf v)
  unfold w_using
  refine s_lengthOf vT o0 o1 (fun _ => br_y (by decide) bad) fun n _ hn => br_i (fun _ => bad) fun hn2 => ?_
  have r0 := IsL.elr vT hn 0 (by omega)
  have r1 := IsL.elr vT hn 1 (by omega)
  have b0 : wB v o = wA v (el v o 0) + wB v (dr v o 1) := wB_dr vT (i := 0) hn (by omega)
  have b1 : wB v (dr v o 1) = wA v (el v o 1) + wB v (dr v o 2) := wB_dr vT (i := 1) hn (by omega)
  have w0 := w_pos vT r0.1 r0.2
  have w1 := w_pos vT r1.1 r1.2
  have d1r := dr_r vT hn (i := 1) (by omega)
  have d2r := dr_r vT hn (i := 2) (by omega)
  have e1 : dr v o 1 = v.2.1 1 o := rfl
  have e2 : dr v o 2 = v.2.1 1 (v.2.1 1 o) := rfl
  have d2p := wB_drp vT (i := 2) hn (by omega)
  refine s_nth vT o0 o1 (by decide) (by decide) (s_isNewName r1.1 (by show el v o 1 < 452000; omega) fun b _ _ => br_i (fun _ => bad) fun _ => bd_i o0 (by omega) (rd_i fun _ => bd_i (by rw [← e1]; exact d1r.1) (by rw [← e1]; omega) (rd_i fun _ => ?_)))
  rw [← e2]
  refine g_arePairs vG d2r.1 d2r.2 (by omega) (by omega) fun b2 a _ ha1 ha2 hpk => ?_
  have hHa := h.gp hu ha1 ha2
  have aE := ha1.2.1
  have aT := ha1.1
  have fin' : ∀ w, HH u w (c + wB v (dr v o 2)) d → ExtT a w → Q w := fun w hw hE => hq w (hw.mono (by omega) (by omega)) (aE.tr vT hE)
  refine br_i (fun hb2 => ?_) fun _ => by
    unfold w_using_42
    exact s_wrong hu (by omega) hHa fun w hw _ hc => fin' w hw (wrE hc)
  obtain ⟨m, hpairs⟩ := hpk hb2
  have hpa : PairsOk a (dr v o 2) m := hpairs.ext vT aT aE
  have a8 := aE.1.1.1
  have am := aT.2.1
  have aF := hHa.1.2.2.1
  have a42 : a.1 42 = u.1 42 := fx_s aF 42 rfl
  refine s_nth aT o0 (by omega) (by decide) (by decide) (s_theoremOf (by rw [a42]; exact hC.2.1.1) (by rw [a42]; exact hC.2.1.2) fun r hr => br_i (fun hr1 => ?_) fun _ => s_wrong hu (by omega) hHa fun w hw _ hc => fin' w hw (wrE hc))
  have hr : 0 ≤ r ∧ r < a.1 42 := by
    rcases hr with z | z
    · exact absurd z.1 hr1
    · exact ⟨z.1, z.2.1⟩
  have r60 : r < 60 := by have := hC.2.1.2; omega
  have exo := aE.1.2.1 o o0 o1
  have exo1 := aE.1.2.1 _ d1r.1 d1r.2
  refine bd_i o0 (by omega) (rd_i fun _ => ?_)
  rw [exo.2.1, ← e1]
  refine bd_i d1r.1 (by omega) (rd_i fun _ => ?_)
  rw [exo1.2.1, e1, ← e2]
  have tau : TJ u (u.2.1 44 r) := (hC.2.2.2.2 r hr.1 (by omega)).2.1
  have hlL := hpairs.1
  unfold w_using_83
  refine lf3 (B := fun R x1 x3 x4 u => w_using_83b R Q x1 x3 x4 u) (fun c1 c3 c4 z => o = c1 ∧ r = c3 ∧ HH u z (c + wB v (dr v o 2)) d ∧ ExtT v z ∧ ∃ i : Nat, c4 = dr v (dr v o 2) i ∧ i ≤ m) (fun _ _ c4 _ => c4.toNat) ?_ ⟨rfl, rfl, hHa, aE, 0, rfl, by omega⟩
  intro c1 c3 c4 z hI R ih
  obtain ⟨q1, q2, q3, q4, i, rfl, q5⟩ := hI
  subst q1
  subst q2
  have zT := q3.1.1
  have zm := zT.2.1
  have z8 := q4.1.1.1
  have zF := q3.1.2.2.1
  have z42 : z.1 42 = u.1 42 := fx_s zF 42 rfl
  have z44 : z.2.1 44 = u.2.1 44 := fx_a zF 44 rfl
  have dri := dr_r vT hlL q5
  unfold w_using_83b
  refine br_i (fun hz => rd_i fun _ => ?_) fun hnz => ?_
  · -- it is used
    obtain ⟨g1, g2, g3, g4, g5⟩ := q3.2.1
    refine bd_i g1 (by omega) (sw_i (rd_i fun _ => bd_i o0 (by omega) (rd_i fun _ => ?_)))
    have exz := q4.1.2.1 o o0 o1
    have exz1 := q4.1.2.1 _ d1r.1 d1r.2
    show bd (z.2.1 1 o) 452000 _
    rw [exz.2.1, ← e1]
    refine bd_i d1r.1 (by omega) (rd_i fun _ => ?_)
    show bd (z.1 139) 400 (sw (iA (iA z 137 (z.1 139) r) 138 (z.1 139) (z.2.1 1 (z.2.1 1 o))) _)
    rw [exz.2.1, ← e1, exz1.2.1, e1, ← e2]
    refine bd_i g1 (by omega) (sw_i (rd_i fun _ => ov_i (show -2147483648 ≤ z.1 139 + 1 by omega) (show z.1 139 + 1 < 2147483648 by omega) (sw_i ?_)))
    show Q (iI (iA (iA z 137 (z.1 139) r) 138 (z.1 139) (dr v o 2)) 139 (z.1 139 + 1))
    generalize hy : iI (iA (iA z 137 (z.1 139) r) 138 (z.1 139) (dr v o 2)) 139 (z.1 139 + 1) = y
    have yF : Fx fHq z y := by rw [← hy]; exact ((Fx_A (k := 137) rfl).tr (Fx_A (k := 138) rfl)).tr (Fx_I (k := 139) rfl)
    have yL : y.2.2 = z.2.2 := by rw [← hy]; rfl
    have y139 : y.1 139 = z.1 139 + 1 := by rw [← hy]; rfl
    have y137 : ∀ j, y.2.1 137 j = if j = z.1 139 then r else z.2.1 137 j := fun j => by rw [← hy]; rfl
    have y138 : ∀ j, y.2.1 138 j = if j = z.1 139 then dr v o 2 else z.2.1 138 j := fun j => by rw [← hy]; rfl
    have ys : ∀ k, k ≠ 139 → y.1 k = z.1 k := fun k hk => by rw [← hy]; exact if_neg hk
    have yr : ∀ k, k ≠ 137 → k ≠ 138 → y.2.1 k = z.2.1 k := fun k h1 h2 => by rw [← hy]; exact (iA_other h2).trans (iA_other h1)
    clear hy
    obtain ⟨yS, yE⟩ := q3.1.fx hu yF yL
    have yT := yS.1
    have vyE := q4.tr vT yE
    have eS : sumU y (y.1 139).toNat = sumU z (z.1 139).toNat + wB v (dr v o 2) := by
      rw [y139, show (z.1 139 + 1).toNat = (z.1 139).toNat + 1 from by omega]
      show sumU y (z.1 139).toNat + wB y (y.2.1 138 ((z.1 139).toNat : Int)) = _
      rw [sumU_ext zT yT yE _ (fun j hj => ⟨by rw [y138, if_neg (by omega)], (g3 j (by omega) (by omega)).r zT⟩), y138, if_pos (by omega), (w_ext vT yT vyE.1 d2r.1 d2r.2).2]
    have y6 : W6 y := by
      have := q3.2.2
      unfold W6 at *
      rw [ys 136 (by decide)]
      exact this
    refine hq y ⟨yS.mono (by omega), ⟨by omega, by omega, fun j j0 j1 => ?_, by omega, fun q => ?_⟩, y6⟩ vyE
    · by_cases ej : j = z.1 139
      · unfold UseOk
        rw [y137, y138, if_pos ej, if_pos ej, ys 42 (by decide), z42]
        exact ⟨hr.1, by omega, m, hpairs.ext vT yT vyE⟩
      · exact (g3 j j0 (by omega)).ext zT yT yE (ys 42 (by decide)) (by rw [y137, if_neg ej]) (by rw [y138, if_neg ej])
    · rw [ys 133 (by decide)]
      exact (g5 (by rw [← ys 136 (by decide)]; exact q)).imp id (fun s => s.ext zT yE (ys 35 (by decide)) (yr 36 (by decide) (by decide)) (yr 37 (by decide) (by decide)) (yr 41 (by decide) (by decide)) (ys 133 (by decide)) (ys 134 (by decide)))
  · have hi : i < m := by
      have : i ≠ m := fun e => hnz ((dr_nz vT hlL q5).mpr e)
      omega
    have hcell := dr_isL hlL q5
    rw [show m - i = (m - i - 1) + 1 from by omega] at hcell
    obtain ⟨f0, f1, f2, f3⟩ := hcell
    have fp := vT.pair f0 f1 f2
    have exf := q4.1.2.1 _ f0 f1
    have hpi := (hpairs.2.1 i hi).r vT
    have ttz : TJ z (z.2.1 44 r) := by rw [z44]; exact tau.ext hu q3.1.2.1
    refine bd_i hr.1 r60 (rd_i fun _ => bd_i f0 (by omega) (rd_i fun _ => ?_))
    rw [exf.1, ← dr_el]
    refine bd_i hpi.1 (by omega) (rd_i fun _ => ?_)
    have ts := ttz.2
    have k118 : ∀ y, HH u y (c + wB v (dr v o 2)) d → ExtT v y → w_using_118 R Q o r (dr v (dr v o 2) i) y := fun y hy hyE => by
      have y8 := hyE.1.1.1
      unfold w_using_118
      refine bd_i f0 (by have := hy.1.1.2.1; omega) (rd_i fun _ => ?_)
      rw [(hyE.1.2.1 _ f0 f1).2.1, ← dr_next]
      exact ih _ _ _ _ ⟨rfl, rfl, hy, hyE, i + 1, rfl, by omega⟩ (by rw [dr_next]; omega)
    refine g_hasVariable zT ttz.1.w (by omega) fun b3 y _ hF hL => ?_
    obtain ⟨yH, yE⟩ := q3.fk hu hF hL
    exact br_i (fun _ => k118 y yH (q4.tr vT yE)) fun _ => s_wrong hu (by omega) yH fun w hw _ hc => k118 w hw ((q4.tr vT yE).tr vT (wrE hc))
theorem g_turningOff {u v : iST} {o c d : Int} {Q : iST → Prop} (hu : TI u) (hC : Core u) (h : HH u v c d) (o0 : 0 ≤ o) (o1 : o < v.1 8) (hq : ∀ w, HH u w c d → ExtT v w → Q w) : w_turningOff o Q v := by
  have vT := h.1.1
  have vm := vT.2.1
  have wrE : ∀ {a w : iST} {x : Int}, (w = a ∨ w = iI a 136 x) → ExtT a w := fun {a w x} hw => by
    rcases hw with rfl | rfl
    · exact ExtT.rf _
    · exact ExtT.same (fun k hk => ⟨if_neg (by omega), rfl⟩) rfl ⟨rfl, rfl, rfl, rfl, rfl⟩
  have bad : w_turningOff_18 Q v := by
    unfold w_turningOff_18
    exact s_wrong hu (by omega) h fun w hw _ hc => hq w hw (wrE hc)
  have num : ∀ (z w : iST), HH u z c d → Fx fHq z w → w.2.2 = z.2.2 → w.2.1 137 = z.2.1 137 → w.2.1 138 = z.2.1 138 → w.1 139 = z.1 139 → w.1 136 = z.1 136 → w.1 133 = z.1 133 → w.1 134 = z.1 134 → HH u w c d ∧ ExtT z w := fun z w hz hF hL h7 h8 h9 h6 h3 h4 => ⟨⟨(hz.1.fx hu hF hL).1, hz.2.1.fx hu hz.1 hF hL h7 h8 h9 (fun q => ⟨by rw [← h6]; exact q, h3, h4⟩), by have := hz.2.2; unfold W6 at *; rw [h6]; exact this⟩, (hz.1.fx hu hF hL).2⟩
  unfold w_turningOff
  refine s_lengthOf vT o0 o1 (fun _ => br_y (by decide) bad) fun n hn8 hn => br_i (fun _ => bad) fun hn2 => rz_i fun _ => br_i (fun _ => zt_1 (sw_i ?_)) fun _ => bad
  obtain ⟨z1, zE⟩ := num v (iI v 135 1) h (Fx_I (k := 135) rfl) rfl rfl rfl rfl rfl rfl rfl
  unfold w_turningOff_31
  refine lf3 (B := fun R x1 x2 x3 u => w_turningOff_31b R Q x1 x2 x3 u) (fun c1 c2 c3 z => o = c1 ∧ (n : Int) = c2 ∧ 1 ≤ c3 ∧ c3 ≤ n ∧ HH u z c d ∧ ExtT v z) (fun _ _ c3 _ => (n - c3).toNat) ?_ ⟨rfl, rfl, Int.le_refl _, by omega, z1, zE⟩
  intro c1 c2 c3 z hI R ih
  obtain ⟨q1, q2, q3, q4, q5, q6⟩ := hI
  subst q1
  subst q2
  have zT := q5.1.1
  have zm := zT.2.1
  have z8 := q6.1.1.1
  have zF := q5.1.2.2.1
  have z42 : z.1 42 = u.1 42 := fx_s zF 42 rfl
  unfold w_turningOff_31b
  refine br_i (fun _ => hq z q5 q6) fun hlt => s_nth zT o0 (by omega) (by omega) (by omega) ?_
  have hnz := hn.ext vT q6.1
  have r := IsL.elr zT hnz c3.toNat (by omega)
  have go : ∀ w, HH u w c d → ExtT v w → ov (c3 + 1) (R o n (c3 + 1) w) := fun w hw hE => ov_i (by omega) (by omega) (ih _ _ _ _ ⟨rfl, rfl, by omega, by omega, hw, hE⟩ (by omega))
  refine s_isNewName r.1 (by omega) fun b _ _ => br_i (fun _ => s_theoremOf (by rw [z42]; exact hC.2.1.1) (by rw [z42]; exact hC.2.1.2) fun k hk => br_i (fun hk1 => s_theoremOf (by rw [z42]; exact hC.2.1.1) (by rw [z42]; exact hC.2.1.2) fun k2 hk2 => ?_) fun _ => s_wrong hu (by omega) q5 fun w hw _ hc => go w hw (q6.tr vT (wrE hc))) fun _ => s_wrong hu (by omega) q5 fun w hw _ hc => go w hw (q6.tr vT (wrE hc))
  rcases hk2 with ⟨z1', z2'⟩ | ⟨z1', z2', z3'⟩
  · rcases hk with q | q
    · exact absurd q.1 hk1
    · exact absurd q.2.2 (z2' k q.1 q.2.1)
  · refine zt_1 (bd_i z1' (by have := hC.2.1.2; omega) (sw_i ?_))
    obtain ⟨y1, yE⟩ := num z (iA z 53 k2 1) q5 (Fx_A (k := 53) rfl) rfl rfl rfl rfl rfl rfl rfl
    exact go _ y1 (q6.tr vT yE)
/-- a list of hints -/
theorem g_hints {u : iST} {l : Int} {n : Nat} {Q : Int → iST → Prop} (hG : GI u) (hC : Core u) (hl : IsL u l n) (hw : wB u l ≤ 1000) (h8 : u.1 8 + wB u l < 450000) (hq : ∀ v, HH u v (wB u l) (wB u l) → Q (v.1 136) v) : w_hints l Q u := by
  have hu := hG.1
  have h44 := hu.1
  unfold w_hints
  refine sw_i (sw_i (zt_0 (sw_i (sw_i ?_))))
  generalize hz : iI (iI (iI (iI u 133 (-1)) 136 0) 135 0) 139 0 = z
  have z2 : z.2 = u.2 := by rw [← hz]; rfl
  have z139 : z.1 139 = 0 := by rw [← hz]; rfl
  have z133 : z.1 133 = -1 := by rw [← hz]; rfl
  have z136 : z.1 136 = 0 := by rw [← hz]; rfl
  have zF : Fx fHq u z := by rw [← hz]; exact (((Fx_I (k := 133) rfl).tr (Fx_I (k := 136) rfl)).tr (Fx_I (k := 135) rfl)).tr (Fx_I (k := 139) rfl)
  clear hz
  have hs0 : Hs u u 0 := ⟨hu, ExtT.rf u, Fx.rf _ u, hG.2.2.1, hG.2.2.2, by omega, rfl, rfl, rfl⟩
  have hz0 : HH u z 0 0 := ⟨(hs0.fx hu zF (by rw [z2])).1, ⟨by omega, by rw [z139]; exact Int.le_refl _, fun j j0 j1 => by omega, by rw [z139]; exact Int.le_refl _, fun _ => Or.inl z133⟩, Or.inl z136⟩
  unfold w_hints_22
  refine lf1 (B := fun R x2 u => w_hints_22b R Q x2 u) (fun x2 v => ∃ i : Nat, x2 = dr u l i ∧ i ≤ n ∧ HH u v (wB u l - wB u (dr u l i)) (wB u l - wB u (dr u l i))) (fun x2 _ => x2.toNat) ?_ ⟨0, rfl, by omega, hz0.mono (by show (0 : Int) ≤ wB u l - wB u l; omega) (by show (0 : Int) ≤ wB u l - wB u l; omega)⟩
  intro x2 v hI R ih
  obtain ⟨i, rfl, p1, p2⟩ := hI
  have vT := p2.1.1
  have vE := p2.1.2.1
  have vm := vT.2.1
  have v8 := vE.1.1.1
  have v8b := p2.1.2.2.2.2.2.1
  have dri := dr_r hu hl p1
  have wdi := w_pos hu dri.1 dri.2
  have wl := hl.r (by omega)
  have wlp := w_pos hu wl.1 wl.2
  unfold w_hints_22b
  refine br_i (fun hz => rd_i fun _ => hq v (p2.mono (by omega) (by omega))) fun hnz => ?_
  have hi : i < n := by
    have : i ≠ n := fun z => hnz ((dr_nz hu hl p1).mpr z)
    omega
  have hcell := dr_isL hl p1
  rw [show n - i = (n - i - 1) + 1 from by omega] at hcell
  obtain ⟨c0, c1, c2, c3⟩ := hcell
  have cp := hu.pair c0 c1 c2
  have er := IsL.elr hu hl i hi
  have wd := wB_dr hu hl hi
  have wdn := wB_drp hu (i := i + 1) hl (by omega)
  have we := w_pos hu er.1 er.2
  refine bd_i c0 (by omega) (rd_i fun _ => ?_)
  rw [(vE.1.2.1 _ c0 c1).1, ← dr_el]
  have wA_v : wA v (el u l i) = wA u (el u l i) := (w_ext hu vT vE.1 er.1 er.2).1
  have next : ∀ w, HH u w (wB u l - wB u (dr u l (i + 1))) (wB u l - wB u (dr u l (i + 1))) → w_hints_125 R Q (dr u l i) w := fun w hw => by
    have wE := hw.1.2.1
    have w8 := wE.1.1.1
    unfold w_hints_125
    refine bd_i c0 (by have := hw.1.1.2.1; omega) (rd_i fun _ => ?_)
    rw [(wE.1.2.1 _ c0 c1).2.1, ← dr_next]
    exact ih _ _ ⟨i + 1, rfl, by omega, hw⟩ (by rw [dr_next]; omega)
  have next' : ∀ w, HH u w (wB u l - wB u (dr u l i)) (wB u l - wB u (dr u l i)) → w_hints_125 R Q (dr u l i) w := fun w hw => next w (hw.mono (by omega) (by omega))
  have k120 : w_hints_120 R Q (dr u l i) v := by
    unfold w_hints_120
    exact s_wrong hu (by omega) p2 fun w hw _ _ => next' w hw
  have v35 : v.1 35 = u.1 35 := fx_s p2.1.2.2.1 35 rfl
  have all : ∀ y0, (y0 = 0 ∨ y0 = 1) → w_hints_46 R Q (dr u l i) (el u l i) y0 v := by
    intro y0 hy
    have k96 : w_hints_96 R Q (dr u l i) (el u l i) y0 v := by
      unfold w_hints_96
      exact br_i (fun _ => k120) fun _ => bd_i er.1 (by omega) (rd_i fun _ => br_i (fun _ => k120) fun _ => g_turningOff hu hC p2 er.1 (by omega) fun w hw _ => next' w hw)
    have k72 : w_hints_72 R Q (dr u l i) (el u l i) y0 v := by
      unfold w_hints_72
      refine br_i (fun _ => k96) fun _ => bd_i er.1 (by omega) (rd_i fun _ => br_i (fun _ => k96) fun h28 => g_using hG hC p2 er.1 (by omega) (by rw [wA_v]; omega) (by omega) (by rw [wA_v]; omega) fun w hw _ => next w ?_)
      rw [wA_v] at hw
      exact hw.mono (by omega) (by omega)
    unfold w_hints_46
    exact br_i (fun _ => k72) fun _ => bd_i er.1 (by omega) (rd_i fun _ => br_i (fun _ => k72) fun _ => g_induction hu p2 (by rw [v35]; exact hC.1) er.1 (by omega) fun w hw _ => next' w hw)
  exact s_lengthOf vT er.1 (by omega) (fun _ => br_y (by decide) (all 0 (Or.inl rfl))) fun m _ _ => br_i (fun _ => all 0 (Or.inl rfl)) fun _ => all 1 (Or.inr rfl)
