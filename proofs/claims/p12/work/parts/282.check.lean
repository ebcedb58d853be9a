/-! check -/
theorem g_check : ChkOk := by
  intro u o Q hP o0 o1 hw h8 hqA hqB
  have hW := hP.1
  have hC := hP.2.1
  have hu := hW.1.1
  have hG := hW.1
  have hO := hW.2.2.2.1
  have um := hu.2.1
  have u6 := hP.2.2.2.2.1
  have u60 := hP.2.2.2.2.2.1
  have u61 := hP.2.2.2.2.2.2.1
  have u117 := hP.2.2.2.2.2.2.2
  have stop : ∀ b, Q b u := fun b => hqA b u (Kp.rf hW)
  unfold w_check
  refine s_lengthOf hu o0 o1 (fun _ => br_y (by decide) (stop 2)) fun n _ hn => br_i (fun _ => stop 2) fun h4 => ?_
  have e4 : n = 4 := by omega
  subst e4
  have r1 := IsL.elr hu hn 1 (by omega)
  have r2 := IsL.elr hu hn 2 (by omega)
  have r3 := IsL.elr hu hn 3 (by omega)
  have r0 := IsL.elr hu hn 0 (by omega)
  have b0 : wB u o = wA u (el u o 0) + wB u (dr u o 1) := wB_dr hu (i := 0) hn (by omega)
  have b1 : wB u (dr u o 1) = wA u (el u o 1) + wB u (dr u o 2) := wB_dr hu (i := 1) hn (by omega)
  have b2 : wB u (dr u o 2) = wA u (el u o 2) + wB u (dr u o 3) := wB_dr hu (i := 2) hn (by omega)
  have b3 : wB u (dr u o 3) = wA u (el u o 3) + wB u (dr u o 4) := wB_dr hu (i := 3) hn (by omega)
  have b4 := wB_drp hu (i := 4) hn (by omega)
  have w0 := w_pos hu r0.1 r0.2
  have w1 := w_pos hu r1.1 r1.2
  have w2 := w_pos hu r2.1 r2.2
  have w3 := w_pos hu r3.1 r3.2
  refine s_nth hu o0 o1 (by decide) (by decide) (s_isNewName r1.1 (by show el u o 1 < 452000; omega) fun b _ _ => br_i (fun _ => ?_) fun _ => stop 2)
  refine s_nth hu o0 o1 (by decide) (by decide) ?_
  rw [show (2 : Int).toNat = 2 from rfl]
  refine g_term hG r2.1 r2.2 (by omega) (by omega) fun t v hv h61 ht => ?_
  have kv := hv.kp hO
  have vT := hv.1
  have vE := hv.2.1
  have vm := vT.2.1
  have v8 := vE.1.1.1
  have v8b := hv.2.2.2.2.2.1
  have vC := kv.core hu hC
  refine br_i (fun hne => ?_) fun _ => hqA 2 v kv
  have htv : TJ v t := ht.resolve_left hne
  refine s_nth vT o0 (by omega) (by decide) (by decide) (s_theoremOf vC.2.1.1 vC.2.1.2 fun r _ => br_i (fun _ => rd_i fun _ => br_i (fun h60 => rd_i fun _ => sw_i (sw_i (sw_i ?_))) fun _ => hqA 8 v kv) fun _ => hqA 3 v kv)
  have aF : Fx fWp v (iI (iI (iI v 144 0) 147 0) 148 (-1)) := ((Fx_I (k := 144) rfl).tr (Fx_I (k := 147) rfl)).tr (Fx_I (k := 148) rfl)
  obtain ⟨ka, kva⟩ := kv.wr hu aF rfl
  have f1 : ∀ k, k ≠ 144 → k ≠ 147 → k ≠ 148 → (iI (iI (iI v 144 0) 147 0) 148 (-1)).1 k = v.1 k := fun k h1 h2 h3 => (if_neg h3).trans ((if_neg h2).trans (if_neg h1))
  have f144 : (iI (iI (iI v 144 0) 147 0) 148 (-1)).1 144 = 0 := rfl
  have f147 : (iI (iI (iI v 144 0) 147 0) 148 (-1)).1 147 = 0 := rfl
  have f148 : (iI (iI (iI v 144 0) 147 0) 148 (-1)).1 148 = -1 := rfl
  generalize iI (iI (iI v 144 0) 147 0) 148 (-1) = a at *
  have aT := ka.1
  have aC := ka.core hu hC
  have aE := ka.2.1
  have a8 : a.1 8 = v.1 8 := f1 8 (by decide) (by decide) (by decide)
  have a6 : a.1 6 = u.1 6 := (f1 6 (by decide) (by decide) (by decide)).trans hv.2.2.2.2.2.2.1
  have a11 : a.1 11 = u.1 11 := (f1 11 (by decide) (by decide) (by decide)).trans hv.2.2.2.2.2.2.2.1
  have a60 : a.1 60 = u.1 60 := (f1 60 (by decide) (by decide) (by decide)).trans (fx_s hv.2.2.1 60 rfl)
  have a61 : a.1 61 = 0 := (f1 61 (by decide) (by decide) (by decide)).trans (h61.trans u61)
  have a117 : a.1 117 = 0 := (f1 117 (by decide) (by decide) (by decide)).trans ((fx_s hv.2.2.1 117 rfl).trans u117)
  have a59 : a.1 59 = u.1 59 := fx_s ka.2.2.2.2.2 59 rfl
  have u59 := hW.2.2.2.2.2.2
  have aW : WI a := WI.mk aT aC ka.2.2.1 ka.2.2.2.1 ka.2.2.2.2.1 (by omega) (by omega) (by omega)
  have hta : TJ a t := htv.ext vT kva.2.1
  have a54 : a.1 54 = a.1 35 + a.1 42 := by
    have hF := ka.2.2.2.2.2
    rw [fx_s hF 54 rfl, fx_s hF 35 rfl, fx_s hF 42 rfl]; exact hP.2.2.1
  have a42 : a.1 42 = v.1 42 := f1 42 (by decide) (by decide) (by decide)
  have ac1 := aC.1
  have ac2 := aC.2.1
  rw [← a8]
  refine s_nth aT o0 (by omega) (by decide) (by decide) ?_
  rw [show (3 : Int).toNat = 3 from rfl, el_ext aE.1 hn 3 (by omega)]
  have eW : wA a (el u o 3) = wA u (el u o 3) := (w_ext hu aT aE.1 r3.1 r3.2).1
  have T8 : a.1 8 + 400 * wA u (el u o 3) ≤ 449100 := by omega
  -- the end
  have end4 : ∀ z, Kp a z → z.1 61 ≠ 0 → w_check_129 Q o t (a.1 8) z := fun z kz hz => by
    unfold w_check_129
    exact rd_i fun _ => br_n hz (hqA 4 z (ka.tr hu kz))
  have end7 : ∀ z, Kp a z → z.1 61 = 0 → 0 ≤ z.1 148 → z.1 148 < z.1 8 → w_check_129 Q o t (a.1 8) z := fun z kz hz h0 h1 => by
    unfold w_check_129
    exact rd_i fun _ => br_y hz (rd_i fun _ => br_n (by omega) (rd_i fun _ => g_tellOut kz.1 kz.2.2.2.2.1 h0 h1 fun x hx => hqA 7 x ((ka.tr hu kz).tr hu (Kp.out kz.2.2.1 kz.2.2.2.1 kz.1 hx))))
  have end0 : ∀ z, Kp a z → z.1 61 = 0 → z.1 148 = -1 → Cz z 0 → z.1 8 ≤ 449100 → w_check_129 Q o t (a.1 8) z := by
    intro z kz hz h148 cz z8
    obtain ⟨c1, c2, c3, c4⟩ := cz
    have zT := kz.1
    have z44 := zT.1
    unfold w_check_129
    refine rd_i fun _ => br_y hz (rd_i fun _ => br_y h148 ?_)
    unfold w_check_160
    refine lf4 (B := fun R y1 y2 y3 y4 u => w_check_160b R Q y1 y2 y3 y4 u) (fun y1 y2 y3 y4 z' => o = y1 ∧ t = y2 ∧ a.1 8 = y3 ∧ 0 ≤ y4 ∧ z = z') (fun _ _ _ y4 _ => (30 - y4).toNat) ?_ ⟨rfl, rfl, rfl, Int.le_refl _, rfl⟩
    intro y1 y2 y3 y4 z' hI R ih
    obtain ⟨rfl, rfl, e3, i0, rfl⟩ := hI
    unfold w_check_160b
    refine bd_i (by decide) (by decide) (rd_i fun _ => br_i (fun _ => ?_) fun hlt => bd_i i0 (by omega) (rd_i fun _ => br_i (fun _ => bd_i (by decide) (by decide) (rd_i fun _ => ov_i (by omega) (by omega) ?_)) fun _ => ov_i (by omega) (by omega) (ih _ _ _ _ _ ⟨rfl, rfl, e3, by omega, rfl⟩ (by omega))))
    · rw [← e3]
      refine g_back aT aC.2.2.1 kz fun s hs => ?_
      have sE := hs.1.2.1
      have s8 := hs.2.1
      refine s_nth hs.1.1 o0 (by omega) (by decide) (by decide) ?_
      have e1 : el s o (1 : Int).toNat = el u o 1 := el_ext (aE.1.tr sE.1) hn 1 (by omega)
      rw [e1]
      refine g_addTheorem aT aC (by omega) (by omega) (by omega) r1.1 (by omega) hta (by decide) hs fun x hx => hqB x ?_
      have := Kp.cb hu ka (d := wB u o) (by omega) (by omega) (by omega) hx
      exact this.mono (by omega)
    · unfold w_check_198
      refine lf2 (B := fun R y1 y2 u => w_check_198b R Q y1 y2 u) (fun x5 x6 s => -1 ≤ x6 ∧ x6 < z.2.1 146 0 ∧ Grow z s (z.2.1 146 0 - 1 - x6) 0 ∧ 0 ≤ x5 ∧ x5 < s.1 8) (fun _ x6 _ => (x6 + 1).toNat) ?_ ⟨by omega, by omega, (Grow.rf zT).mono (by omega) (by omega), Int.le_refl _, by omega⟩
      intro x5 x6 s hI R2 ih2
      obtain ⟨p1, p2, p3, p4, p5⟩ := hI
      have s8 := p3.2.2.2.2.1
      have s8b := p3.2.1.1.1
      have sF := p3.2.2.2.1
      unfold w_check_198b
      refine br_i (fun _ => g_tellOut p3.1 (OI_eq kz.2.2.2.2.1 (fx_s sF 16 rfl) (fx_s sF 22 rfl)) p4 p5 fun x hx => hqA 7 x ((ka.tr hu kz).tr hu (Kp.told kz.2.2.1 kz.2.2.2.1 kz.1 p3 hx))) fun hpos => bd_i (by omega) (by omega) (rd_i fun _ => ?_)
      rw [fx_a sF 145 rfl]
      have hl := (c3 x6 (by omega) p2).1.r
      rw [show 30 * 0 + x6 = x6 from by omega] at hl
      exact g_pair p3.1 (by omega) hl.1 (by omega) p4 p5 fun k y hg k0 k1 _ _ _ => ov_i (by omega) (by omega) (ih2 _ _ _ ⟨by omega, by omega, (p3.tr hg (by omega)).mono (by omega) (by omega), k0, k1⟩ (by omega))
  -- the loop
  have loop : ∀ (N : Nat) (z : iST), ((∃ m, MI a z (wA u (el u o 3)) m ∧ m < N) ∨ Bad a z) → w_check_100 Q o t (a.1 8) z := by
    intro N z hz
    unfold w_check_100
    refine lr3 (B := fun R y1 y2 y3 u => w_check_100b R Q y1 y2 y3 u) (fun N y1 y2 y3 z => o = y1 ∧ t = y2 ∧ a.1 8 = y3 ∧ ((∃ m, MI a z (wA u (el u o 3)) m ∧ m < N) ∨ Bad a z)) ?_ (n := N) ⟨rfl, rfl, rfl, hz⟩
    intro N y1 y2 y3 z hI R ih
    obtain ⟨rfl, rfl, rfl, hz⟩ := hI
    unfold w_check_100b
    refine rd_i fun _ => ?_
    rcases hz with ⟨m, hM, hmN⟩ | ⟨kz, hbad⟩
    · have kz := hM.1.1
      have z61 := hM.2.1
      have z148 := hM.2.2.1
      refine br_n (by omega) (rd_i fun _ => br_n (by omega) (rd_i fun _ => br_i (fun h0 => ?_) fun hpos => ?_))
      · obtain ⟨hB, _, _, D, b, rm, po, eD, D40, e147, hS, hcz, h3, hp, h6, _⟩ := hM
        have nn := hS.nn kz.1
        have eD0 : D = 0 := by omega
        subst eD0
        have eb : b = 1 := hS.1
        exact end0 z kz z61 z148 (hcz 0 (by decide) (by omega)) (by omega)
      · have m0 : 0 ≤ m := by
          obtain ⟨hB, _, _, D, b, rm, po, eD, D40, e147, hS, hcz, h3, hp, h6, e⟩ := hM
          have nn := hS.nn kz.1
          omega
        refine g_goProof aW aC hM (by omega) (by omega) T8 (by omega) fun y hy => ih (N - 1) _ _ _ _ (by omega) ⟨rfl, rfl, rfl, hy.imp (fun ⟨m', h1, h2⟩ => ⟨m', h1, by omega⟩) id⟩
    · by_cases z61 : z.1 61 = 0
      · have hb := hbad.resolve_left (fun q => q z61)
        exact br_n (by omega) (rd_i fun _ => br_y (by omega) (end7 z kz z61 hb.1 hb.2))
      · exact br_y z61 (end4 z kz z61)
  have aB : BS a a := ⟨Kp.rf aW, a117, Int.le_refl _, by omega⟩
  refine g_beginProof (D := 0) (b := 1) (rm := 0) (po := 0) (W := wA u (el u o 3)) aW aC aB a61 f148 f144 (by omega) f147 (by decide) ⟨rfl, rfl, rfl⟩ (fun c c0 c1 => by omega) r3.1 (by omega) (by omega) (by omega) (by omega) T8 (by omega) (by omega) fun y hy => ?_
  exact loop (2 * wA u (el u o 3)).toNat.succ y (hy.imp (fun ⟨m, h1, h2⟩ => ⟨m, h1, by omega⟩) id)
