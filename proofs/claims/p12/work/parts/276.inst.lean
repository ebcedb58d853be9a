/-! instances of a clause, terms put for terms -/
theorem g_instanced {u a : iST} {c e k x o : Int} {m : Nat} {Q : Int → iST → Prop} (hu : TI u) (h : CD u a c e k) (hk : k + 30 ≤ 1200) (x0 : 0 ≤ x) (x1 : x < 349) (hc : Cz u x) (o0 : 0 ≤ o) (o1 : o < u.1 8) (d1 : 0 ≤ u.2.1 1 o ∧ u.2.1 1 o < u.1 8) (hp : PairsOk u (u.2.1 1 (u.2.1 1 o)) m) (hw : wB u (u.2.1 1 (u.2.1 1 o)) ≤ 1000) (h8 : u.1 8 + c + 31 * wB u (u.2.1 1 (u.2.1 1 o)) + 800 ≤ 451000) (hq : ∀ y, CD u y (c + 30 * wB u (u.2.1 1 (u.2.1 1 o)) + 800) e (k + 30) → Q 1 y) : w_instanced o x Q a := by
  have um := hu.2.1
  generalize hP : u.2.1 1 (u.2.1 1 o) = P at *
  have hlL := hp.1
  have Pr := hlL.r (by have := hu.1; omega)
  have hwords := (hp.words hu).1
  have wP := (w_pos hu Pr.1 Pr.2).2.1
  obtain ⟨z1, z2, z3, z4⟩ := hc
  have rT : ∀ j : Nat, j < (u.2.1 146 x).toNat → IsT u ((fun i => u.2.1 145 (30 * x + i)) (j : Int)) := fun j hj => (z3 j (by omega) (by omega)).1
  have S0 : ∀ i : Nat, (i : Int) ≤ u.2.1 146 x → 0 ≤ sumT u (fun i => u.2.1 145 (30 * x + i)) i ∧ sumT u (fun i => u.2.1 145 (30 * x + i)) i ≤ 400 := fun i hi => by
    have := sumT_le hu (r := fun i => u.2.1 145 (30 * x + i)) (n := i) (m := (u.2.1 146 x).toNat) (by omega) rT
    omega
  have mul30 : ∀ i : Nat, i ≤ 30 → 0 ≤ (i : Int) * wB u P ∧ (i : Int) * wB u P ≤ 30 * wB u P := fun i hi => ⟨Int.mul_nonneg (by omega) wP, Int.mul_le_mul_of_nonneg_right (by omega) wP⟩
  unfold w_instanced w_instanced_2
  refine lf3 (B := fun R y1 y2 y3 u => w_instanced_2b R Q y1 y2 y3 u) (fun y1 y2 y3 v => o = y1 ∧ x = y2 ∧ ∃ i : Nat, y3 = i ∧ (i : Int) ≤ u.2.1 146 x ∧ CD u v (c + (i : Int) * wB u P + 2 * sumT u (fun i => u.2.1 145 (30 * x + i)) i) e (k + i)) (fun _ _ y3 _ => (u.2.1 146 x - y3).toNat) ?_ ⟨rfl, rfl, 0, rfl, z1, h.mono (by show c ≤ c + ((0 : Nat) : Int) * wB u P + 2 * 0; rw [show ((0 : Nat) : Int) = 0 from rfl, Int.zero_mul]; omega) (Int.le_refl _) (by omega)⟩
  intro y1 y2 y3 v hI R ih
  obtain ⟨rfl, rfl, i, rfl, p1, p2⟩ := hI
  have vF := p2.1.fx
  have Si := S0 i p1
  have Mi := mul30 i (by omega)
  unfold w_instanced_2b
  refine bd_i x0 (by omega) (rd_i fun _ => ?_)
  rw [fx_a vF 146 rfl]
  refine br_i (fun _ => zt_1 (hq v (p2.mono (by omega) (Int.le_refl _) (by omega)))) fun hlt => sw_i ?_
  have hi : (i : Int) < u.2.1 146 x := by omega
  have Si1 := S0 (i + 1) (by omega)
  have Mi1 := mul30 (i + 1) (by omega)
  have eSi : sumT u (fun i => u.2.1 145 (30 * x + i)) (i + 1) = sumT u (fun i => u.2.1 145 (30 * x + i)) i + sz u (u.2.1 145 (30 * x + i)) := rfl
  have eMi : ((i + 1 : Nat) : Int) * wB u P = (i : Int) * wB u P + wB u P := by rw [show ((i + 1 : Nat) : Int) = (i : Int) + 1 from by omega, Int.add_mul]; omega
  obtain ⟨zI, zE⟩ := p2.fz hu (Fx_I (k := 74) rfl : Fx fZ v (iI v 74 0)) rfl
  have z74 : (iI v 74 0).1 74 = 0 := rfl
  generalize iI v 74 0 = z0 at *
  have z0E := zI.1.ex
  have z08 := z0E.1.1.1
  have z0m := zI.1.1.1.1.2.1
  refine bd_i o0 (by omega) (rd_i fun _ => ?_)
  rw [(z0E.1.2.1 o o0 o1).2.1]
  refine bd_i d1.1 (by omega) (rd_i fun _ => ?_)
  rw [(z0E.1.2.1 _ d1.1 d1.2).2.1, hP]
  unfold w_instanced_30
  refine lf4 (B := fun R30 y1 y2 y3 y4 u => w_instanced_30b R R30 Q y1 y2 y3 y4 u) (fun y1 y2 y3 y4 z => o = y1 ∧ x = y2 ∧ (i : Int) = y3 ∧ ∃ j : Nat, y4 = dr u P j ∧ j ≤ m ∧ CD u z (c + (i : Int) * wB u P + 2 * sumT u (fun i => u.2.1 145 (30 * x + i)) i + (wB u P - wB u (dr u P j))) e (k + i) ∧ z.1 74 = j ∧ ∀ t, 0 ≤ t → t < (j : Int) → IsT z (z.2.1 73 t)) (fun _ _ _ y4 _ => y4.toNat) ?_ ⟨rfl, rfl, rfl, 0, rfl, by omega, zI.mono (by show _ ≤ _ + (wB u P - wB u P); omega) (Int.le_refl _) (Int.le_refl _), z74, fun t t0 t1 => by omega⟩
  intro y1 y2 y3 y4 z hI2 R30 ih2
  obtain ⟨rfl, rfl, rfl, j, rfl, r2, r3, r4, r5⟩ := hI2
  have zT := r3.1.1.1.1
  have zm := zT.2.1
  have zE' := r3.1.ex
  have zF := r3.1.fx
  have zG := r3.1.1.1
  have z8 := r3.1.e8
  have z8b := zE'.1.1.1
  have drj := wB_drp hu hlL r2
  have drl := wB_dle hu hlL j r2
  have drr := dr_r hu hlL r2
  unfold w_instanced_30b
  refine br_i (fun hz => ov_i (by omega) (by omega) (ov_i (by omega) (by omega) (bd_i (by omega) (by omega) (rd_i fun _ => ?_)))) fun hnz => ?_
  · rw [fx_a zF 145 rfl]
    have ht := z3 i (by omega) hi
    have htz := ht.ext hu zE'
    have hsz : sz z (u.2.1 145 (30 * x + i)) = sz u (u.2.1 145 (30 * x + i)) := zE'.szx ht.1
    have hsr := ht.1.szr hu
    have hs2 := ht.2
    refine g_inst zG htz.1 htz.2 ⟨by omega, by omega, fun t t0 t1 => r5 t t0 (by omega)⟩ (by rw [hsz]; omega) fun t y hy ht2 hts _ _ => ?_
    rw [hsz] at hy
    have yD := r3.gp hu hy
    exact g_putCD hu yD (by omega) ht2 hts fun w hw _ => ov_i (by omega) (by omega) (ih _ _ _ _ ⟨rfl, rfl, i + 1, by omega, by omega, hw.mono (by omega) (Int.le_refl _) (by omega)⟩ (by omega))
  · have hj : j < m := by
      have : j ≠ m := fun e => hnz ((dr_nz hu hlL r2).mpr e)
      omega
    have hcell := dr_isL hlL r2
    rw [show m - j = (m - j - 1) + 1 from by omega] at hcell
    obtain ⟨f0, f1, f2, f3⟩ := hcell
    have exf := zE'.1.2.1 _ f0 f1
    have hpi := hp.2.1 j hj
    have hpr := hpi.r hu
    have wd := wB_dr hu hlL hj
    have wdn := wB_drp hu hlL (i := j + 1) (by omega)
    refine bd_i f0 (by omega) (rd_i fun _ => ?_)
    rw [exf.1, ← dr_el]
    have hlp := hpi.1
    refine s_nth zT hpr.1 (by omega) (by decide) (by decide) ?_
    rw [show (1 : Int).toNat = 1 from rfl, el_ext zE'.1 hlp 1 (by omega)]
    have e1r : 0 ≤ el u (el u P j) 1 ∧ el u (el u P j) 1 < u.1 8 := ⟨hpr.2.2.2.2.1, hpr.2.2.2.2.2⟩
    have w1 : wB u (el u P j) = wA u (u.2.1 0 (el u P j)) + wB u (u.2.1 1 (el u P j)) := wB_pair hu hlp.1 hlp.2.1 hlp.2.2.1
    have w2 : wB u (u.2.1 1 (el u P j)) = wA u (el u (el u P j) 1) + wB u (dr u (el u P j) 2) := wB_dr hu (i := 1) hlp (by omega)
    have w3 := wB_drp hu (i := 2) hlp (by omega)
    have w4 := w_pos hu hpr.2.2.1 hpr.2.2.2.1
    have w5 := w_pos hu e1r.1 e1r.2
    have w6 := (w_pos hu hpr.1 hpr.2.1).2.2
    have wv : wA z (el u (el u P j) 1) = wA u (el u (el u P j) 1) := (w_ext hu zT zE'.1 e1r.1 e1r.2).1
    have tgood := hpi.2.2
    have tv : tS z (el u (el u P j) 1) = tS u (el u (el u P j) 1) := (t_good hu zT zE' e1r.1 e1r.2).1 (by omega)
    refine g_termT zG e1r.1 (by omega) (by rw [wv]; omega) (by rw [wv]; omega) fun t w hw2 h61 ht => rd_i fun _ => ?_
    rw [wv] at hw2
    rw [tv] at ht
    have htt : IsT w t := by
      rcases ht with ⟨_, q⟩ | ⟨q, _⟩
      · omega
      · exact q
    have wD := r3.gp hu hw2
    have wT := hw2.1
    have wF := hw2.2.2.1
    have wm := wT.2.1
    have wE := wD.1.ex
    have w8' := wE.1.1.1
    have w74 : w.1 74 = (j : Int) := by rw [fx_s wF 74 rfl]; exact r4
    refine bd_i f0 (by omega) (rd_i fun _ => ?_)
    rw [(wE.1.2.1 _ f0 f1).1, ← dr_el]
    refine bd_i hpr.1 (by omega) (rd_i fun _ => ?_)
    rw [w74]
    generalize w.2.1 0 (el u P j) = x72
    refine bd_i (by omega) (by omega) (sw_i (rd_i fun _ => ?_))
    show bd (w.1 74) 400 (sw (iA (iA w 72 (j : Int) x72) 73 (w.1 74) t) _)
    rw [w74]
    refine bd_i (by omega) (by omega) (sw_i (rd_i fun _ => ?_))
    show ov (w.1 74 + 1) (sw (iI (iA (iA w 72 (j : Int) x72) 73 (j : Int) t) 74 (w.1 74 + 1)) _)
    rw [w74]
    refine ov_i (by omega) (by omega) (sw_i ?_)
    have vF' : Fx fZ w (iI (iA (iA w 72 (j : Int) x72) 73 (j : Int) t) 74 ((j : Int) + 1)) := ((Fx_A (k := 72) rfl).tr (Fx_A (k := 73) rfl)).tr (Fx_I (k := 74) rfl)
    obtain ⟨vI, vE⟩ := wD.fz hu vF' rfl
    have v73 : ∀ t', (iI (iA (iA w 72 (j : Int) x72) 73 (j : Int) t) 74 ((j : Int) + 1)).2.1 73 t' = if t' = (j : Int) then t else w.2.1 73 t' := fun t' => iA_same
    have v74 : (iI (iA (iA w 72 (j : Int) x72) 73 (j : Int) t) 74 ((j : Int) + 1)).1 74 = ((j + 1 : Nat) : Int) := by show (j : Int) + 1 = _; omega
    have vuE := vI.1.ex
    have v8 := vuE.1.1.1
    have vm := vI.1.1.1.1.2.1
    generalize iI (iA (iA w 72 (j : Int) x72) 73 (j : Int) t) 74 ((j : Int) + 1) = v' at *
    refine bd_i f0 (by omega) (rd_i fun _ => ?_)
    rw [(vuE.1.2.1 _ f0 f1).2.1, ← dr_next]
    refine ih2 _ _ _ _ _ ⟨rfl, rfl, rfl, j + 1, rfl, by omega, vI.mono (by omega) (Int.le_refl _) (Int.le_refl _), v74, fun t' t0 t1 => ?_⟩ (by have := (hu.pair f0 f1 f2).2; rw [dr_next]; omega)
    rw [v73]
    split
    · exact htt.ext wT vE
    · have hj' := r5 t' t0 (by omega)
      rw [fx_a wF 73 rfl]
      exact (hj'.ext zT hw2.2.1).ext wT vE
theorem g_replaced {u a : iST} {c e k x : Int} {Q : Int → iST → Prop} (hu : TI u) (h : CD u a c e k) (hk : k + 60 ≤ 1200) (x0 : 0 ≤ x) (x1 : x < 348) (hc : Cz u x) (hc1 : Cz u (x + 1)) (h8 : u.1 8 + c + 1000 ≤ 451000) (hq : ∀ b y, bz b → CD u y (c + 800) e (k + 60) → Q b y) : w_replaced x Q a := by
  have aT := h.1.1.1.1
  have aE := h.1.ex
  have cza := h.cz hu hc
  unfold w_replaced
  refine g_beginsEqual aT x0 (by omega) cza fun b hb hbb => br_i (fun hz => ?_) fun _ => zt_0 (hq 0 a (Or.inl rfl) (h.mono (by omega) (Int.le_refl _) (by omega)))
  obtain ⟨q1, q2⟩ := hbb hz
  clear hbb
  have ht := cza.2.2.1 0 (Int.le_refl _) q1
  rw [show 30 * x + 0 = 30 * x from by omega] at ht
  have hr := ht.1.r
  obtain ⟨e1, e2⟩ := equal_args aT ht q2
  refine ov_i (by omega) (by omega) (bd_i (by omega) (by omega) (rd_i fun _ => s_term aT hr.1 hr.2 (by decide) (by decide) (ov_i (by omega) (by omega) (bd_i (by omega) (by omega) (rd_i fun _ => s_term aT hr.1 hr.2 (by decide) (by decide) ?_)))))
  show w_replaced_43 Q x (el a (a.2.1 145 (30 * x)) 1) (el a (a.2.1 145 (30 * x)) 2) 0 a
  generalize el a (a.2.1 145 (30 * x)) 1 = A at *
  generalize el a (a.2.1 145 (30 * x)) 2 = B at *
  obtain ⟨z1, z2, z3, z4⟩ := hc1
  have rT : ∀ j : Nat, j < (u.2.1 146 (x + 1)).toNat → IsT u ((fun i => u.2.1 145 (30 * (x + 1) + i)) (j : Int)) := fun j hj => (z3 j (by omega) (by omega)).1
  have S0 : ∀ i : Nat, (i : Int) ≤ u.2.1 146 (x + 1) → 0 ≤ sumT u (fun i => u.2.1 145 (30 * (x + 1) + i)) i ∧ sumT u (fun i => u.2.1 145 (30 * (x + 1) + i)) i ≤ 400 := fun i hi => by
    have := sumT_le hu (r := fun i => u.2.1 145 (30 * (x + 1) + i)) (n := i) (m := (u.2.1 146 (x + 1)).toNat) (by omega) rT
    omega
  unfold w_replaced_43
  refine lf4 (B := fun R y1 y2 y3 y4 u => w_replaced_43b R Q y1 y2 y3 y4 u) (fun y1 y2 y3 y4 v => x = y1 ∧ A = y2 ∧ B = y3 ∧ ∃ i : Nat, y4 = i ∧ (i : Int) ≤ u.2.1 146 (x + 1) ∧ CD u v (c + 2 * sumT u (fun i => u.2.1 145 (30 * (x + 1) + i)) i) e (k + i) ∧ ExtT a v) (fun _ _ _ y4 _ => (u.2.1 146 (x + 1) - y4).toNat) ?_ ⟨rfl, rfl, rfl, 0, rfl, z1, h.mono (by show c ≤ c + 2 * 0; omega) (Int.le_refl _) (by omega), ExtT.rf a⟩
  intro y1 y2 y3 y4 v hI R ih
  obtain ⟨rfl, rfl, rfl, i, rfl, p1, p2, p3⟩ := hI
  have vF := p2.1.fx
  have vT := p2.1.1.1.1
  have Si := S0 i p1
  unfold w_replaced_43b
  refine ov_i (by omega) (by omega) (bd_i (by omega) (by omega) (rd_i fun _ => ?_))
  rw [fx_a vF 146 rfl]
  refine br_i (fun _ => ov_i (by omega) (by omega) (bd_i (by omega) (by omega) (rd_i fun _ => g_pour hu p2 (by omega) x0 (by omega) hc fun y hy _ => zt_1 (hq 1 y (Or.inr rfl) (hy.mono (by omega) (Int.le_refl _) (by omega)))))) fun hlt => sw_i (ov_i (by omega) (by omega) (ov_i (by omega) (by omega) (ov_i (by omega) (by omega) (bd_i (by omega) (by omega) (rd_i fun _ => ?_)))))
  have hi : (i : Int) < u.2.1 146 (x + 1) := by omega
  have Si1 := S0 (i + 1) (by omega)
  have eSi : sumT u (fun i => u.2.1 145 (30 * (x + 1) + i)) (i + 1) = sumT u (fun i => u.2.1 145 (30 * (x + 1) + i)) i + sz u (u.2.1 145 (30 * (x + 1) + i)) := rfl
  obtain ⟨zI, zE⟩ := p2.fz hu (Fx_I (k := 74) rfl : Fx fZ v (iI v 74 0)) rfl
  have z74 : (iI v 74 0).1 74 = 0 := rfl
  have z145 : (iI v 74 0).2.1 145 = u.2.1 145 := fx_a zI.1.fx 145 rfl
  have azE := p3.tr aT zE
  generalize iI v 74 0 = z0 at *
  rw [z145]
  have htl := z3 i (by omega) hi
  have uE := zI.1.ex
  have htz := htl.ext hu uE
  have hsz : sz z0 (u.2.1 145 (30 * (x + 1) + i)) = sz u (u.2.1 145 (30 * (x + 1) + i)) := uE.szx htl.1
  have hsr := htl.1.szr hu
  have hs2 := htl.2
  have z8 := zI.1.e8
  have zG := zI.1.1.1
  refine g_anew zG.1 zG.2.1 zG.2.2.1 zG.2.2.2 htz.1 htz.2 ⟨by omega, by omega, fun t t0 t1 => by omega⟩ (Or.inr (e2.1.ext aT azE)) (by rw [hsz]; omega) fun t y hy => ?_
  obtain ⟨a1, a2, a3, a4, a5, a6, a7, a8, a9, a10, a11, a12, a13⟩ := hy
  rw [hsz] at a6
  have yG : GP z0 y (2 * sz u (u.2.1 145 (30 * (x + 1) + i)) - 1) := ⟨a1, a2, a3, a4, a5, by omega, a7, a8, a13⟩
  have yD := zI.gp hu yG
  exact g_putCD hu yD (by omega) a9 (fun z => (a12 z).1) fun w hw hwE => ov_i (by omega) (by omega) (ih _ _ _ _ _ ⟨rfl, rfl, rfl, i + 1, by omega, by omega, hw.mono (by omega) (Int.le_refl _) (by omega), (azE.tr aT a2).tr aT hwE⟩ (by omega))
