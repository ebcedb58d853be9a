/-! the class: rules are sought and applied; rewritten -/
theorem j_canLook_r [DecidableEq Ob] {u : iST} {k g : Int} {Q : Int → iST → Prop} (k0 : 0 ≤ k) (k1 : k < 60) (hn : Q 0 u) (hy : u.2.1 7 k ≠ -1 → Q 1 u) : v_0_canLook k g Q u := by
  unfold v_0_canLook
  exact bd_i k0 k1 (rd_i fun _ => br_i (fun _ => zt_0 hn) fun h => bd_i k0 k1 (rz_i fun _ => br_i (fun _ => zt_0 hn) fun _ => bd_i k0 k1 (rz_i fun _ => br_i (fun _ => zt_0 hn) fun _ => br_i (fun _ => zt_1 (hy h)) fun _ => bd_i k0 k1 (rz_i fun _ => br_i (fun _ => zt_0 hn) fun _ => zt_1 (hy h)))))
theorem j_seek_r [DecidableEq Ob] {u : iST} {d : Nat} {Q : iST → Prop} (hI : IV_r u) (hd : u.1 23 = d + 1) (hs : fr_r u d 3 = 12) (hq : ∀ v, StQ_r u v → Q v) : v_6_seek d Q u := by
  obtain ⟨h, hS, hP⟩ := IQ_r.begin hI hd
  rw [hs] at hP
  have hP : Pt_r u = Po_r u d + 8 := hP
  obtain ⟨m1, m0⟩ := hS.2.2.2.2.1 (by omega) (by omega)
  have h8 := hS.2.2.2.2.2.2.1 hs
  have hm := h.m
  unfold v_6_seek
  refine bd_i (by decide) (by decide) (rd_i fun _ => ?_)
  unfold v_6_seek_5
  refine lf2 (B := fun R x1 x2 u => v_6_seek_5b R Q x1 x2 u) (fun x1 x2 z => (d : Int) = x1 ∧ IQ_r u d z ∧ (∀ i, fr_r z d i = fr_r u d i) ∧ x2 < u.1 1 ∧ inR x2) (fun _ x2 _ => (x2 + 1).toNat) ?_ ⟨rfl, h, fun _ => rfl, h8, by assumption⟩
  intro x1 x2 z hI2 R ih
  obtain ⟨rfl, hz, zf, x2l, x2r⟩ := hI2
  have z1 : z.1 1 = u.1 1 := hz.r.s 1 (by decide)
  have k104 : v_6_seek_104 Q d z := by
    unfold v_6_seek_104
    refine bd_i (by decide) (by decide) (sw_e_r fun w e => ?_)
    obtain ⟨hw, wf, wr⟩ := hz.sw e (by decide)
    have w3 : fr_r w d 3 = 16 := by rw [wf 3 (by decide) (by decide), if_pos rfl]
    have w5 : fr_r w d 5 = fr_r u d 5 := by rw [wf 5 (by decide) (by decide), if_neg (by decide), zf]
    have := hz.r.2.1.1
    exact hq w (q_stay_r hw (SV_r.m (by omega) (by rw [w5, wr.n]; omega) (by omega)) hP (by rw [w3]; decide))
  unfold v_6_seek_5b
  refine br_i (fun _ => k104) fun h0 => rd_i fun _ => br_i (fun _ => k104) fun _ => bd_i (by decide) (by decide) (rd_i fun _ => ?_)
  have nx : ∀ w, IQ_r u d w → (∀ i, fr_r w d i = fr_r u d i) → ov (x2 + (-1)) (R d (x2 + (-1)) w) := fun w hw wf => ov_i (by omega) (by omega) (ih _ _ _ ⟨rfl, hw, wf, by omega, by omega, by omega⟩ (by omega))
  have z5 : z.2.1 51 (17 * (d : Int) + 5) < z.1 29 := by
    show fr_r z d 5 < _
    rw [zf]
    have := hz.r.2.1.1
    omega
  refine j_canLook_r (by omega) (by omega) (br_y rfl (nx z hz zf)) fun hl => br_n (by decide) (bd_i (by omega) (by omega) (rd_i fun _ => bd_i (by decide) (by decide) (rd_i fun _ => j_matches_r hz.T z5 fun b w hb hw wV => ?_)))
  have hw2 := hz.tm hw wV
  have wf : ∀ i, fr_r w d i = fr_r u d i := fun i => by rw [← zf]; unfold fr_r; rw [hw.a 51 (by decide)]
  refine br_i (fun _ => nx w hw2 wf) fun _ => j_step_r hw2.T (fun a ha a31 alt a32 => br_n (by decide) ?_) fun a ha a31 a32 => br_y rfl (nx a (hw2.st ha) (fun i => by rw [← wf]; unfold fr_r; rw [ha.a 51 (by decide)]))
  have ha2 := hw2.st ha
  have af : ∀ i, fr_r a d i = fr_r u d i := fun i => by rw [← wf]; unfold fr_r; rw [ha.a 51 (by decide)]
  have pa : Po_r a d + 20 ≤ Po_r u d := by
    have e : Po_r a d = Po_r w d - 20 := by
      unfold Po_r
      rw [a31, ha.s 30 (by decide), cs_eq_r (u := w) (v := a) (fun k _ _ => by unfold fr_r; rw [ha.a 51 (by decide)])]
      omega
    have := hw2.2.2.2.2.2
    omega
  have gb := ha2.base
  refine bd_i (by decide) (by decide) (sw_e_r fun s e => bd_i (by decide) (by decide) (sw_e_r fun t e2 => bd_i (by omega) (by omega) (rz_i fun _ => ?_)))
  obtain ⟨hs2, sf, sr⟩ := gb.sw e (by decide)
  obtain ⟨ht2, tf, tr⟩ := hs2.sw e2 (by decide)
  have t8 : fr_r t d 8 = x2 := by rw [tf 8 (by decide) (by decide), if_neg (by decide), sf 8 (by decide) (by decide), if_pos rfl]
  have t9 : fr_r t d 9 = 0 := by rw [tf 9 (by decide) (by decide), if_pos rfl]
  have t5 : fr_r t d 5 = fr_r u d 5 := by rw [tf 5 (by decide) (by decide), if_neg (by decide), sf 5 (by decide) (by decide), if_neg (by decide), af]
  have t29 : t.1 29 = a.1 29 := by rw [tr.n, sr.n]
  have t1 : t.1 1 = u.1 1 := by rw [tr.n, sr.n, ha2.r.s 1 (by decide)]
  have t7 : t.2.1 7 x2 ≠ -1 := by
    rw [tr.a 7 (by decide), sr.a 7 (by decide), ha.a 7 (by decide), hw.a 7 (by decide)]
    exact hl
  clear e e2
  have k96 : ∀ y, (y = 13 ∨ y = 14) → v_6_seek_96 Q d 3 y t := by
    intro y hy
    unfold v_6_seek_96
    refine bd_i (by decide) (by decide) (sw_e_r fun c e => ?_)
    obtain ⟨hc, cf, cr⟩ := ht2.sw e (by decide)
    have c3 : fr_r c d 3 = y := by rw [cf 3 (by decide) (by decide), if_pos rfl]
    have c5 : fr_r c d 5 = fr_r u d 5 := by rw [cf 5 (by decide) (by decide), if_neg (by decide), t5]
    have c8 : fr_r c d 8 = x2 := by rw [cf 8 (by decide) (by decide), if_neg (by decide), t8]
    have c9 : fr_r c d 9 = 0 := by rw [cf 9 (by decide) (by decide), if_neg (by decide), t9]
    have c29 : c.1 29 = t.1 29 := cr.n 29
    have c1 : c.1 1 = u.1 1 := by rw [cr.n, t1]
    have := ha2.r.2.1.1
    have e := hc.end (SV_r.r (by omega) (by omega) (by omega) (by rw [c8, c1, cr.a 7 (by decide)]; exact ⟨by omega, x2l, t7⟩) (by omega) (by omega))
    have cb := (cS_r_r (fr_r c d 3)).2
    exact hq c ⟨e.1, ha2.r.tr e.2.1, fun _ _ => by have := e.2.2; omega⟩
  exact br_i (fun _ => k96 14 (Or.inr rfl)) fun _ => k96 13 (Or.inl rfl)
theorem IQ_r.S [DecidableEq Ob] {u0 u : iST} {d : Nat} (h : IQ_r u0 d u) : SL_r u := h.1.1.2.2.2.2.2.1
theorem IQ_r.B [DecidableEq Ob] {u0 u : iST} {d : Nat} (h : IQ_r u0 d u) : TB_r u := h.1.1.2.2.2.2.1
theorem j_compare_r [DecidableEq Ob] {u : iST} {d : Nat} {Q : iST → Prop} (hI : IV_r u) (hd : u.1 23 = d + 1) (hs : fr_r u d 3 = 13) (hq : ∀ v, StQ_r u v → Q v) : v_6_compare d Q u := by
  obtain ⟨h, hS, hP⟩ := IQ_r.begin hI hd
  rw [hs] at hP
  have hP : Pt_r u = Po_r u d + 12 := hP
  obtain ⟨m1, m0⟩ := hS.2.2.2.2.1 (by omega) (by omega)
  obtain ⟨⟨r0, r1, r2⟩, r3, _⟩ := hS.2.2.2.2.2.2.2 (by omega) (by omega)
  have hm := h.m
  have r8 : u.2.1 51 (17 * (d : Int) + 8) = fr_r u d 8 := rfl
  have tb := (h.B (fr_r u d 8) r0 r1).2 r2
  -- the last part
  have k76 : ∀ w, IQ_r u d w → (∀ i, fr_r w d i = fr_r u d i) → v_6_compare_76 Q d 0 w := by
    intro w hw wf
    have w29 := hw.r.2.1.1
    have k191 : ∀ x3 x4 y2, ((y2 = 12 ∧ x4 ≤ x3) ∨ (y2 = 14 ∧ ¬ x4 ≤ x3)) → v_6_compare_191 Q d x3 x4 d 3 y2 w := by
      intro x3 x4 y2 hy
      unfold v_6_compare_191
      refine bd_i (by decide) (by decide) (sw_e_r fun a e => bd_i (by decide) (by decide) (rd_i fun _ => ?_))
      obtain ⟨ha, af, ar⟩ := hw.sw e (by decide)
      have a3 : fr_r a d 3 = y2 := by rw [af 3 (by decide) (by decide), if_pos rfl]
      have a8 : a.2.1 51 (17 * (d : Int) + 8) = fr_r u d 8 := by
        show fr_r a d 8 = _
        rw [af 8 (by decide) (by decide), if_neg (by decide), wf]
      have a5 : fr_r a d 5 = fr_r u d 5 := by rw [af 5 (by decide) (by decide), if_neg (by decide), wf]
      have a9 : fr_r a d 9 = fr_r u d 9 := by rw [af 9 (by decide) (by decide), if_neg (by decide), wf]
      have a29 : a.1 29 = w.1 29 := ar.n 29
      have a1 : a.1 1 = u.1 1 := by rw [ar.n, hw.r.s 1 (by decide)]
      clear e
      rw [a8]
      refine br_i (fun hle => ?_) fun hgt => ?_
      · unfold v_6_compare_208
        refine ov_i (by omega) (by omega) (bd_i (by decide) (by decide) (sw_e_r fun b e => ?_))
        obtain ⟨hb, bf, br⟩ := ha.sw e (by decide)
        have b3 : fr_r b d 3 = 12 := by rw [bf 3 (by decide) (by decide), if_neg (by decide), a3]; omega
        have b5 : fr_r b d 5 = fr_r u d 5 := by rw [bf 5 (by decide) (by decide), if_neg (by decide), a5]
        have b8 : fr_r b d 8 = fr_r u d 8 - 1 := by rw [bf 8 (by decide) (by decide), if_pos rfl]
        have b29 : b.1 29 = a.1 29 := br.n 29
        have b1 : b.1 1 = u.1 1 := by rw [br.n, a1]
        exact hq b (q_stay_r hb (SV_r.s12 b3 (by omega) (by omega) (by omega)) hP (by rw [b3]; decide))
      · unfold v_6_compare_208
        refine ov_i (by omega) (by omega) (bd_i (by decide) (by decide) (sw_e_r fun b e => ?_))
        obtain ⟨hb, bf, br⟩ := ha.sw e (by decide)
        have b3 : fr_r b d 3 = 14 := by rw [bf 3 (by decide) (by decide), if_neg (by decide), a3]; omega
        have b5 : fr_r b d 5 = fr_r u d 5 := by rw [bf 5 (by decide) (by decide), if_neg (by decide), a5]
        have b8 : fr_r b d 8 = fr_r u d 8 := by rw [bf 8 (by decide) (by decide), if_pos rfl]; omega
        have b9 : fr_r b d 9 = fr_r u d 9 := by rw [bf 9 (by decide) (by decide), if_neg (by decide), a9]
        have b29 : b.1 29 = a.1 29 := br.n 29
        have b1 : b.1 1 = u.1 1 := by rw [br.n, a1]
        have b7 : b.2.1 7 = u.2.1 7 := by rw [br.a 7 (by decide), ar.a 7 (by decide), hw.r.a 7 (by decide)]
        exact hq b (q_stay_r hb (SV_r.r (by omega) (by omega) (by omega) (by rw [b8, b1, b7]; exact ⟨r0, r1, r2⟩) (by omega) (by omega)) hP (by rw [b3]; decide))
    have k174 : ∀ x3 y0, v_6_compare_174 Q d x3 y0 w := by
      intro x3 y0
      unfold v_6_compare_174
      exact br_i (fun h => k191 _ _ _ (Or.inl ⟨rfl, h⟩)) fun h => k191 _ _ _ (Or.inr ⟨rfl, h⟩)
    have l1 := hw.S 1 (by decide) (by decide)
    have l2 := hw.S 2 (by decide) (by decide)
    have s1 := slen_r_r 1
    have s2 := slen_r_r 2
    have k149 : ∀ x2 y, 0 ≤ x2 → v_6_compare_149 Q d x2 y w := by
      intro x2 y h0
      unfold v_6_compare_149
      exact rd_i fun _ => br_i (fun _ => k174 _ _) fun hlt => bd_i h0 (by omega) (rh_i_r fun _ => k174 _ _)
    have k125 : ∀ x2, 0 ≤ x2 → v_6_compare_125 Q d x2 w := by
      intro x2 h0
      unfold v_6_compare_125
      exact rd_i fun _ => br_i (fun _ => k149 _ _ h0) fun hlt => bd_i h0 (by omega) (rh_i_r fun _ => k149 _ _ h0)
    unfold v_6_compare_76
    refine lf2 (B := fun R x1 x2 u => v_6_compare_76b R Q x1 x2 u) (fun x1 x2 z => (d : Int) = x1 ∧ 0 ≤ x2 ∧ w = z) (fun _ x2 _ => (2000 - x2).toNat) ?_ ⟨rfl, Int.le_refl _, rfl⟩
    intro x1 x2 z hI2 R ih
    obtain ⟨rfl, x20, rfl⟩ := hI2
    unfold v_6_compare_76b
    exact rd_i fun _ => br_i (fun _ => k125 _ x20) fun h1 => rd_i fun _ => br_i (fun _ => k125 _ x20) fun h2 => bd_i x20 (by omega) (rh_i_r fun _ => bd_i x20 (by omega) (rh_i_r fun _ => br_i (fun _ => k125 _ x20) fun _ => ov_i (by omega) (by omega) (ih _ _ _ ⟨rfl, by omega, rfl⟩ (by omega))))
  unfold v_6_compare
  refine bd_i (by decide) (by decide) (rd_i fun _ => ?_)
  rw [r8]
  refine bd_i r0 (by omega) (rd_i fun _ => bd_i (by decide) (by decide) (rd_i fun _ => j_matches_r h.T m1 fun b v hb hv vV => ?_))
  have hv2 := h.tm hv vV
  refine j_clear9_r hv2.T hv2.S fun w hw wS => bd_i (by decide) (by decide) (rd_i fun _ => ?_)
  have hw2 := hv2.sc hw wS
  have wV : BV_r w := vV.rg hw (by decide) (by decide)
  have wf : ∀ i, fr_r w d i = fr_r u d i := fun i => by unfold fr_r; rw [hw.a 51 (by decide), hv.a 51 (by decide)]
  have e8 : w.2.1 51 (17 * (d : Int) + 8) = fr_r u d 8 := wf 8
  rw [e8]
  have e88 : w.2.1 8 = u.2.1 8 := by rw [hw.a 8 (by decide), hv.a 8 (by decide)]
  have w29 := hw2.r.2.1.1
  refine bd_i r0 (by omega) (rd_i fun _ => ?_)
  rw [e88]
  refine j_fill_r hw2.T hw2.1.1.rd (by omega) wV fun t x hx ht => ?_
  have hx2 := hw2.rb hx
  have xf : ∀ i, fr_r x d i = fr_r u d i := fun i => by rw [← wf]; unfold fr_r; rw [hx.a 51 (by decide)]
  refine j_write_r hx2.T hx2.S (by decide) (by decide) fun y hy yS => ?_
  have hy2 := hx2.sc hy yS
  have yf : ∀ i, fr_r y d i = fr_r u d i := fun i => by rw [← xf]; unfold fr_r; rw [hy.a 51 (by decide)]
  refine j_clear9_r hy2.T hy2.S fun z hz zS => ?_
  have hz2 := hy2.sc hz zS
  have zf : ∀ i, fr_r z d i = fr_r u d i := fun i => by rw [← yf]; unfold fr_r; rw [hz.a 51 (by decide)]
  refine bd_i (by decide) (by decide) (rd_i fun _ => j_write_r hz2.T hz2.S (by decide) (by decide) fun p hp pS => k76 p (hz2.sc hp pS) (fun i => ?_))
  rw [← zf]; unfold fr_r; rw [hp.a 51 (by decide)]
theorem j_apply_r [DecidableEq Ob] {u : iST} {d : Nat} {Q : iST → Prop} (hI : IV_r u) (hd : u.1 23 = d + 1) (hs : fr_r u d 3 = 14) (hq : ∀ v, StQ_r u v → Q v) : v_6_apply d Q u := by
  obtain ⟨h, hS, hP⟩ := IQ_r.begin hI hd
  rw [hs] at hP
  have hP : Pt_r u = Po_r u d + 10 := hP
  obtain ⟨m1, m0⟩ := hS.2.2.2.2.1 (by omega) (by omega)
  obtain ⟨⟨r0, r1, r2⟩, r3, _⟩ := hS.2.2.2.2.2.2.2 (by omega) (by omega)
  have hm := h.m
  have r8 : u.2.1 51 (17 * (d : Int) + 8) = fr_r u d 8 := rfl
  have tb := (h.B (fr_r u d 8) r0 r1).2 r2
  unfold v_6_apply
  refine bd_i (by decide) (by decide) (rd_i fun _ => ?_)
  rw [r8]
  refine bd_i r0 (by omega) (rd_i fun _ => bd_i (by decide) (by decide) (rd_i fun _ => j_matches_r h.T m1 fun b v hb hv vV => ?_))
  have hv2 := h.tm hv vV
  have vf : ∀ i, fr_r v d i = fr_r u d i := fun i => by unfold fr_r; rw [hv.a 51 (by decide)]
  have v9 : v.2.1 51 (17 * (d : Int) + 9) = fr_r u d 9 := vf 9
  have v99 : v.2.1 9 = u.2.1 9 := hv.a 9 (by decide)
  have v8 : v.2.1 8 = u.2.1 8 := hv.a 8 (by decide)
  have v29 := hv2.r.2.1.1
  refine bd_i (by decide) (by decide) (rd_i fun _ => bd_i r0 (by omega) (rd_i fun _ => ?_))
  rw [v9, v99, v8]
  refine br_i (fun hlt => bd_i (by decide) (by decide) (sw_e_r fun w e => bd_i r0 (by omega) (bd_i (by decide) (by decide) (rd_i fun _ => ?_)))) fun _ => bd_i r0 (by omega) (rd_i fun _ => j_fill_r hv2.T hv2.1.1.rd (by omega) vV fun t x hx ht => q_instead_r (hv2.rb hx) hP (by decide) ht hq)
  obtain ⟨hw, wf, wr⟩ := hv2.sw e (by decide)
  have w3 : fr_r w d 3 = 15 := by rw [wf 3 (by decide) (by decide), if_pos rfl]
  have w5 : fr_r w d 5 = fr_r u d 5 := by rw [wf 5 (by decide) (by decide), if_neg (by decide), vf]
  have w8 : fr_r w d 8 = fr_r u d 8 := by rw [wf 8 (by decide) (by decide), if_neg (by decide), vf]
  have w9 : fr_r w d 9 = fr_r u d 9 := by rw [wf 9 (by decide) (by decide), if_neg (by decide), vf]
  have e9 : w.2.1 51 (17 * (d : Int) + 9) = fr_r u d 9 := w9
  have w50 : w.2.1 50 = u.2.1 50 := by rw [wr.a 50 (by decide), hv.a 50 (by decide)]
  have wV : BV_r w := vV.rg wr (by decide) (by decide)
  have w29 : w.1 29 = v.1 29 := wr.n 29
  have w7 : w.2.1 7 = u.2.1 7 := by rw [wr.a 7 (by decide), hv.a 7 (by decide)]
  have w1 : w.1 1 = u.1 1 := hw.r.s 1 (by decide)
  clear e
  rw [e9]
  refine bd_i r3.1 (by omega) (rd_i fun _ => ?_)
  rw [w50]
  have tj := tb.2.2.2 (fr_r u d 9) r3.1 hlt
  have sv : SV_r w d := SV_r.r (by omega) (by omega) (by omega) (by rw [w8, w1, w7]; exact ⟨r0, r1, r2⟩) (by omega) (fun _ => by omega)
  refine j_fill_r hw.T hw.1.1.rd (by omega) wV fun t x hx ht => rd_i fun _ => ?_
  have hx2 := hw.rb hx
  have xf : ∀ i, fr_r x d i = fr_r w d i := fun i => by unfold fr_r; rw [hx.a 51 (by decide)]
  have svx : SV_r x d := sv.ext hw.T hx.2.1 hx.2.2.2 (hx.s 1 (by decide)) (hx.a 7 (by decide)) (fun j _ _ => xf j)
  exact br_i (fun hz => hq x (q_bad_r hx2 svx hz)) fun _ => bd_i (by decide) (by decide) (rd_i fun _ => q_ask_r hx2 svx hP (by rw [xf, w3]; decide) ht hx2.f.2.1 hq)
theorem j_judge_r [DecidableEq Ob] {u : iST} {d : Nat} {Q : iST → Prop} (hI : IV_r u) (hd : u.1 23 = d + 1) (hs : fr_r u d 3 = 15) (hq : ∀ v, StQ_r u v → Q v) : v_6_judge d Q u := by
  obtain ⟨h, hS, hP⟩ := IQ_r.begin hI hd
  rw [hs] at hP
  have hP : Pt_r u = Po_r u d + 11 := hP
  obtain ⟨m1, m0⟩ := hS.2.2.2.2.1 (by omega) (by omega)
  obtain ⟨⟨r0, r1, r2⟩, r3, r4⟩ := hS.2.2.2.2.2.2.2 (by omega) (by omega)
  have r4 := r4 hs
  have hm := h.m
  have r8 : u.2.1 51 (17 * (d : Int) + 8) = fr_r u d 8 := rfl
  have r9 : u.2.1 51 (17 * (d : Int) + 9) = fr_r u d 9 := rfl
  unfold v_6_judge
  refine rd_i fun _ => br_i (fun _ => bd_i (by decide) (by decide) (rd_i fun _ => ?_)) fun _ => bd_i (by decide) (by decide) (rd_i fun _ => ?_)
  · rw [r8]
    refine ov_i (by omega) (by omega) (bd_i (by decide) (by decide) (sw_e_r fun a e => bd_i (by decide) (by decide) (sw_e_r fun b e2 => ?_)))
    obtain ⟨ha, af, ar⟩ := h.sw e (by decide)
    obtain ⟨hb, bf, br⟩ := ha.sw e2 (by decide)
    have b3 : fr_r b d 3 = 12 := by rw [bf 3 (by decide) (by decide), if_pos rfl]
    have b5 : fr_r b d 5 = fr_r u d 5 := by rw [bf 5 (by decide) (by decide), if_neg (by decide), af 5 (by decide) (by decide), if_neg (by decide)]
    have b8 : fr_r b d 8 = fr_r u d 8 - 1 := by rw [bf 8 (by decide) (by decide), if_neg (by decide), af 8 (by decide) (by decide), if_pos rfl]
    have b29 : b.1 29 = u.1 29 := by rw [br.n, ar.n]
    have b1 : b.1 1 = u.1 1 := by rw [br.n, ar.n]
    exact hq b (q_stay_r hb (SV_r.s12 b3 (by omega) (by omega) (by omega)) hP (by rw [b3]; decide))
  · rw [r9]
    refine ov_i (by omega) (by omega) (bd_i (by decide) (by decide) (sw_e_r fun a e => bd_i (by decide) (by decide) (sw_e_r fun b e2 => ?_)))
    obtain ⟨ha, af, ar⟩ := h.sw e (by decide)
    obtain ⟨hb, bf, br⟩ := ha.sw e2 (by decide)
    have b3 : fr_r b d 3 = 14 := by rw [bf 3 (by decide) (by decide), if_pos rfl]
    have b5 : fr_r b d 5 = fr_r u d 5 := by rw [bf 5 (by decide) (by decide), if_neg (by decide), af 5 (by decide) (by decide), if_neg (by decide)]
    have b8 : fr_r b d 8 = fr_r u d 8 := by rw [bf 8 (by decide) (by decide), if_neg (by decide), af 8 (by decide) (by decide), if_neg (by decide)]
    have b9 : fr_r b d 9 = fr_r u d 9 + 1 := by rw [bf 9 (by decide) (by decide), if_neg (by decide), af 9 (by decide) (by decide), if_pos rfl]
    have b29 : b.1 29 = u.1 29 := by rw [br.n, ar.n]
    have b1 : b.1 1 = u.1 1 := by rw [br.n, ar.n]
    have b7 : b.2.1 7 = u.2.1 7 := by rw [br.a 7 (by decide), ar.a 7 (by decide)]
    exact hq b (q_stay_r hb (SV_r.r (by omega) (by omega) (by omega) (by rw [b8, b1, b7]; exact ⟨r0, r1, r2⟩) (by omega) (by omega)) hP (by rw [b3]; decide))
theorem j_unfold_r [DecidableEq Ob] {u : iST} {d : Nat} {Q : iST → Prop} (hI : IV_r u) (hd : u.1 23 = d + 1) (hs : fr_r u d 3 = 16) (hq : ∀ v, StQ_r u v → Q v) : v_6_unfold d Q u := by
  obtain ⟨h, hS, hP⟩ := IQ_r.begin hI hd
  rw [hs] at hP
  have hP : Pt_r u = Po_r u d + 6 := hP
  obtain ⟨m1, m0⟩ := hS.2.2.2.2.1 (by omega) (by omega)
  have hT := h.T
  have bn := h.1.1.2.1.1.1
  have fin : v_6_finish (u.2.1 51 (17 * (d : Int) + 5)) (fun u => Q u) u := q_finish_r h hP (by decide) m1 hq
  unfold v_6_unfold
  refine bd_i (by decide) (by decide) (rd_i fun _ => j_left_r hT (j_functionOf_r bn.1 bn.2 fun r hr => br_i (fun hne => ?_) fun _ => bd_i (by decide) (by decide) (rd_i fun _ => fin)))
  obtain ⟨k0, k1, _⟩ := hr.resolve_left hne
  have hb := (h.1.1.2.1.2 r k0 k1).1.st.1
  have k134 : ∀ w x4 y, IQ_r u d w → BV_r w → fr_r w d 5 = fr_r u d 5 → fr_r w d 3 = 16 → y < w.1 29 → v_6_unfold_134 Q d x4 y w := by
    intro w x4 y hw wV w5 w3 hy
    unfold v_6_unfold_134
    refine j_fill_r hw.T hw.1.1.rd hy wV fun t x hx ht => ?_
    have hx2 := hw.rb hx
    have xf : ∀ i, fr_r x d i = fr_r w d i := fun i => by unfold fr_r; rw [hx.a 51 (by decide)]
    refine br_i (fun _ => rd_i fun _ => br_i (fun hz => ?_) fun _ => bd_i (by decide) (by decide) (sw_e_r fun a e => ?_)) fun _ => q_instead_r hx2 hP (by decide) ht hq
    · exact hq x (q_bad_r hx2 (SV_r.m (by rw [xf, w3]; decide) (by rw [xf, w5]; have := hx2.r.2.1.1; omega) (by rw [xf, w5]; exact m0)) hz)
    · obtain ⟨ha, af, ar⟩ := hx2.sw e (by decide)
      have a3 : fr_r a d 3 = 17 := by rw [af 3 (by decide) (by decide), if_pos rfl]
      have a5 : fr_r a d 5 = fr_r u d 5 := by rw [af 5 (by decide) (by decide), if_neg (by decide), xf, w5]
      have a29 : a.1 29 = x.1 29 := ar.n 29
      have := hx2.r.2.1.1
      clear e
      exact bd_i (by decide) (by decide) (rd_i fun _ => q_ask_r ha (SV_r.m (by omega) (by omega) (by omega)) hP (by rw [a3]; decide) (by omega) ha.f.2.1 hq)
  have k86 : ∀ y, v_6_unfold_86 Q d r (u.2.1 3 r) y u := by
    intro y
    unfold v_6_unfold_86
    refine bd_i k0 (by omega) (rd_i fun _ => bd_i (by decide) (by decide) (rd_i fun _ => j_right_r hT (j_bindRow_r hT fun w hw wV => ?_)))
    have hw2 := h.tm (hw.w (by decide) (by decide)) wV
    have wf : fr_r w d 5 = fr_r u d 5 := by unfold fr_r; rw [hw.a 51 (by decide)]
    have wf3 : fr_r w d 3 = 16 := by rw [← hs]; unfold fr_r; rw [hw.a 51 (by decide)]
    exact br_i (fun _ => j_item_r hw2.T (by decide) fun b _ b1 => k134 w y b hw2 wV wf wf3 b1) fun _ => k134 w y _ hw2 wV wf wf3 (hw.up hb)
  have k59 : ∀ y, v_6_unfold_59 Q d r (u.2.1 3 r) y u := by
    intro y
    unfold v_6_unfold_59
    exact br_i (fun _ => k86 _) fun _ => j_isCallOf_r hT (fun _ _ => br_y (by decide) (k86 _)) fun _ => br_n (fun z => z rfl) (bd_i (by decide) (by decide) (rd_i fun _ => fin))
  exact bd_i k0 (by omega) (rd_i fun _ => bd_i k0 (by omega) (rd_i fun _ => br_i (fun _ => k59 _) fun _ => k59 _))
theorem j_chooseBranch_r [DecidableEq Ob] {u : iST} {d : Nat} {Q : iST → Prop} (hI : IV_r u) (hd : u.1 23 = d + 1) (hs : fr_r u d 3 = 17) (hq : ∀ v, StQ_r u v → Q v) : v_6_chooseBranch d Q u := by
  obtain ⟨h, hS, hP⟩ := IQ_r.begin hI hd
  rw [hs] at hP
  have hP : Pt_r u = Po_r u d + 4 := hP
  obtain ⟨m1, m0⟩ := hS.2.2.2.2.1 (by omega) (by omega)
  have hT := h.T
  have bn := h.1.1.2.1.1.1
  have k37 : v_6_chooseBranch_37 Q d u := by
    unfold v_6_chooseBranch_37
    exact bd_i (by decide) (by decide) (rd_i fun _ => q_finish_r h hP (by decide) m1 hq)
  unfold v_6_chooseBranch
  refine bd_i (by decide) (by decide) (rd_i fun _ => j_left_r hT (j_functionOf_r bn.1 bn.2 fun r hr => br_i (fun _ => k37) fun hne => rd_i fun _ => j_isConstant_r hT fun b _ _ => br_i (fun _ => ?_) fun _ => k37))
  obtain ⟨k0, k1, _⟩ := hr.resolve_left hne
  refine bd_i k0 (by omega) (rd_i fun _ => bd_i (by decide) (by decide) (rd_i fun _ => j_right_r hT (j_bindRow_r hT fun w hw wV => ?_)))
  have hw2 := h.tm (hw.w (by decide) (by decide)) wV
  have k102 : ∀ y, y < 5 → v_6_chooseBranch_102 Q d (w.2.1 3 r) y w := by
    intro y hy
    unfold v_6_chooseBranch_102
    exact j_item_r hw2.T (by omega) fun b _ b1 => j_fill_r hw2.T hw2.1.1.rd b1 wV fun t x hx ht => q_instead_r (hw2.rb hx) hP (by decide) ht hq
  exact bd_i k0 (by omega) (rd_i fun _ => rd_i fun _ => br_i (fun _ => k102 3 (by decide)) fun _ => k102 2 (by decide))
def NF_r (u : iST) : Prop := (0 ≤ u.1 26 ∧ u.1 26 ≤ 1000) ∧ ∀ k, 0 ≤ k → k < u.1 26 → nt_r u k 0 < u.1 29 ∧ nt_r u k 2 < u.1 29 ∧ nt_r u k 3 < u.1 29
theorem NF_r.keep [DecidableEq Ob] {u v : iST} (h : NF_r u) (h26 : v.1 26 = u.1 26) (h29 : u.1 29 ≤ v.1 29) (h52 : v.2.1 52 = u.2.1 52) : NF_r v := by
  refine ⟨by rw [h26]; exact h.1, fun k k0 k1 => ?_⟩
  rw [h26] at k1
  have := h.2 k k0 k1
  unfold nt_r at *
  rw [h52]
  omega
theorem NV_r.fin [DecidableEq Ob] {u : iST} (h : NV_r u) (hc : u.1 27 ≠ 0 ∨ u.1 23 ≤ 0) : NF_r u := ⟨h.1, fun k k0 k1 => by
  obtain ⟨a, b, c⟩ := h.2 k k0 k1
  refine ⟨a, b, ?_⟩
  rcases c with c | ⟨c0, f, f0, f1, _⟩
  · exact c
  · rcases hc with hc | hc
    · exact absurd c0 hc
    · omega⟩
theorem Pt_nn_r [DecidableEq Ob] {u : iST} (h : IV_r u) : 0 ≤ Pt_r u := by
  have := h.1.2.2.2.2
  have := cs_nn_r u (u.1 23).toNat
  unfold Pt_r Po_r
  omega
theorem j_rewritten_r [DecidableEq Ob] {u : iST} {x g r : Int} {Q : Int → iST → Prop} (hW : WK_r u) (hN : NF_r u) (h25 : 0 ≤ u.1 25 ∧ u.1 25 ≤ u.1 1) (h31 : 0 ≤ u.1 31 ∧ u.1 31 ≤ u.1 30) (h30 : u.1 27 = 0 → u.1 30 ≤ 1000) (hx : x < u.1 29) (hr : r < u.1 29) (hq : ∀ t v, RG_r rwS_r rwR_r u v → WK_r v → (0 ≤ v.1 31 ∧ v.1 31 ≤ v.1 30) → (v.1 32 = 0 ∨ u.1 27 ≠ 0 → NF_r v) → t < v.1 29 → (v.1 32 ≠ 0 → t = -1) → Q t v) : v_6_rewritten x g r Q u := by
  have hT := hW.1
  have h44 := hT.1.1
  unfold v_6_rewritten
  refine sw_e_r fun a e => sw_e_r fun b e2 => ?_
  have rb : RG_r rwS_r rwR_r u b := by
    rw [e2, e]
    exact ((RG_r.rf hT).I _ (by decide) (by decide) (by decide)).I _ (by decide) (by decide) (by decide)
  have b2 : b.2 = u.2 := by rw [e2, e]; rfl
  have b23 : b.1 23 = 0 := by rw [e2, e]; rfl
  have b24 : b.1 24 = -1 := by rw [e2]; rfl
  have bo : ∀ k, k ≠ 23 → k ≠ 24 → b.1 k = u.1 k := fun k h1 h2 => by
    rw [e2, e]
    show (if k = 24 then _ else if k = 23 then _ else u.1 k) = _
    rw [if_neg h2, if_neg h1]
  clear e e2
  have bI : IV_r b := by
    refine ⟨⟨hW.rg rb (hW.2.2.2.2.2.1.keep (by rw [b2])) (by rw [bo 39 (by decide) (by decide)]; exact hW.2.2.2.2.2.2), ⟨by rw [bo 26 (by decide) (by decide)]; exact hN.1, fun k k0 k1 => ?_⟩, by rw [bo 29 (by decide) (by decide), b24]; omega, by rw [bo 25 (by decide) (by decide), bo 1 (by decide) (by decide)]; exact h25, by rw [bo 31 (by decide) (by decide), bo 30 (by decide) (by decide)]; exact h31⟩, by omega, fun k k0 k1 => by omega⟩
    rw [bo 26 (by decide) (by decide)] at k1
    have q := hN.2 k k0 k1
    unfold nt_r at *
    rw [b2, bo 29 (by decide) (by decide)]
    exact ⟨q.1, q.2.1, Or.inl q.2.2⟩
  have b27 : b.1 27 = u.1 27 := bo 27 (by decide) (by decide)
  have bP : u.1 27 = 0 → Pt_r b ≤ 20000 := fun z => by
    have := h30 z
    unfold Pt_r Po_r
    rw [b23, bo 30 (by decide) (by decide), bo 31 (by decide) (by decide)]
    show 20 * (u.1 30 - u.1 31) + 0 ≤ 20000
    omega
  refine j_ask_r bI (by rw [bo 29 (by decide) (by decide)]; exact hx) (by rw [bo 29 (by decide) (by decide)]; exact hr) fun c hc => ?_
  unfold v_6_rewritten_20
  refine lf1 (B := fun R x4 u => v_6_rewritten_20b R Q x4 u) (fun x4 v => 0 ≤ x4 ∧ IV_r v ∧ RG_r rwS_r rwR_r u v ∧ (v.1 32 = 0 → u.1 27 = 0 → x4 + Pt_r v ≤ 20000)) (fun x4 _ => (1000000 - x4).toNat) ?_ ⟨Int.le_refl _, hc.1, rb.tr hc.2.1, fun z y => by have := hc.2.2 z (by omega); have := bP y; omega⟩
  intro x4 v hI R ih
  obtain ⟨x40, vI, vr, vP⟩ := hI
  have vT := vI.1.1.1
  have v44 := vT.1.1
  have fin : (1000000 ≤ x4 ∨ v.1 23 ≤ 0 ∨ v.1 32 ≠ 0) → v_6_rewritten_405 Q v := by
    intro hc
    have nf : v.1 32 = 0 ∨ u.1 27 ≠ 0 → NF_r v := by
      intro h
      by_cases h27 : u.1 27 = 0
      · have h32 := h.resolve_right (fun z => z h27)
        have := vP h32 h27
        have := Pt_nn_r vI
        refine vI.1.2.1.fin (Or.inr ?_)
        rcases hc with hc | hc | hc
        · omega
        · exact hc
        · exact absurd h32 hc
      · exact vI.1.2.1.fin (Or.inl (by rw [vr.s 27 (by decide)]; exact h27))
    unfold v_6_rewritten_405
    refine rd_i fun _ => br_i (fun hz => hq (-1) v vr vI.1.1 vI.1.2.2.2.2 nf (by omega) (fun _ => rfl)) fun hz => rd_i fun _ => hq _ v vr vI.1.1 vI.1.2.2.2.2 nf vI.1.2.2.1 (fun z => absurd z hz)
  unfold v_6_rewritten_20b
  refine br_i (fun h => fin (Or.inl h)) fun hlt => rd_i fun _ => br_i (fun h => fin (Or.inr (Or.inl h))) fun h23 => rd_i fun _ => br_i (fun h => fin (Or.inr (Or.inr h))) fun h32 => rd_i fun _ => ?_
  have h32 := Classical.not_not.mp h32
  have d60 := vI.2.1
  obtain ⟨d, hd⟩ : ∃ d : Nat, v.1 23 = d + 1 := ⟨(v.1 23 - 1).toNat, by omega⟩
  have nx : ∀ w, StQ_r v w → ov (x4 + 1) (R (x4 + 1) w) := fun w hw => ov_i (by omega) (by omega) (ih _ _ ⟨by omega, hw.1, vr.tr hw.2.1, fun z y => by
    have := hw.2.2 z (by rw [vr.s 27 (by decide)]; exact y)
    have := vP h32 y
    omega⟩ (by omega))
  obtain ⟨q, qS, qP⟩ := IQ_r.begin vI hd
  have cpos := (cS_r_r (fr_r v d 3)).1
  rw [hd, show (d : Int) + 1 - 1 = d from by omega]
  refine ov_i (by omega) (by omega) (bd_i (by omega) (by omega) (bd_i (by decide) (by decide) (rd_i fun _ => ?_)))
  have f3 : v.2.1 51 (17 * (d : Int) + 3) = fr_r v d 3 := rfl
  have f5 : v.2.1 51 (17 * (d : Int) + 5) = fr_r v d 5 := rfl
  have f7 : v.2.1 51 (17 * (d : Int) + 7) = fr_r v d 7 := rfl
  rw [f3, f5, f7]
  refine br_i (fun h => j_start_r vI hd h nx) fun _ => br_i (fun h => rd_i fun _ => q_finish_r q qP (by omega) q.a nx) fun _ => br_i (fun h => j_goOnWithTest_r vI hd h nx) fun _ => br_i (fun h => j_goOnWithThen_r vI hd h nx) fun _ => br_i (fun h => ?_) fun _ => br_i (fun h => j_goOnWithNegation_r vI hd h nx) fun _ => br_i (fun h => j_gather_r vI hd h nx) fun _ => br_i (fun h => j_compute_r vI hd h h32 nx) fun _ => br_i (fun h => ?_) fun _ => br_i (fun h => ?_) fun _ => br_i (fun h => ?_) fun _ => br_i (fun h => j_lookUp_r vI hd h nx) fun _ => br_i (fun h => j_seek_r vI hd h nx) fun _ => br_i (fun h => j_compare_r vI hd h nx) fun _ => br_i (fun h => j_apply_r vI hd h nx) fun _ => br_i (fun h => j_judge_r vI hd h nx) fun _ => br_i (fun h => j_unfold_r vI hd h nx) fun _ => br_i (fun h => j_chooseBranch_r vI hd h nx) fun _ => rd_i fun _ => q_finish_r q qP (by omega) q.a nx
  · exact bd_i (by decide) (by decide) (rd_i fun _ => bd_i (by decide) (by decide) (rd_i fun _ => rd_i fun _ => bd_i (by decide) (by decide) (rd_i fun _ => j_choice_r vT (qS.1 (Or.inr h)) (qS.2.2.1 h) q.a fun t w hw ht => q_finish_r (q.rm hw) qP (by omega) ht nx)))
  · exact bd_i (by decide) (by decide) (rd_i fun _ => j_item_r vT (by decide) fun a _ a1 => bd_i (by decide) (by decide) (rd_i fun _ => j_item_r vT (by decide) fun b _ b1 => j_reduceEqual_r vI hd h a1 b1 nx))
  · exact bd_i (by decide) (by decide) (rd_i fun _ => j_item_r vT (by decide) fun a _ a1 => bd_i (by decide) (by decide) (rd_i fun _ => j_item_r vT (by decide) fun b _ b1 => j_reduceLess_r vI hd h a1 b1 nx))
  · exact bd_i (by decide) (by decide) (rd_i fun _ => j_left_r vT (bd_i (by decide) (by decide) (rd_i fun _ => j_item_r vT (by decide) fun b _ b1 => j_reduceOther_r vI hd h nx)))

