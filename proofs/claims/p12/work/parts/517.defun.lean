-- deps: 516
/-! the reference: what a command leaves; defun takes a function -/
def CmO [DecidableEq Ob] (u v : iST) (r : Sp.Res) (a : Int) : Prop := v.1 64 = 0 ∧ (v.1 59 = u.1 59 ∧ v.2.1 12 = u.2.1 12) ∧ v.1 60 = r.2.1 ∧ (if a = 5 ∨ a = 6 then v.1 63 = (r.2.2.1 : Int) else r.2.2.1 = 0) ∧ bq (v.1 62) r.2.2.2 ∧ ∃ m, HX v r.1 m ∧ (v.1 54 ≤ u.1 54 → BgOk v)
def CmI [DecidableEq Ob] (u : iST) (H : Sp.Hs) (fuel : Nat) (k : Int) : Prop := HX u H [] ∧ BgOk u ∧ (u.1 71 = 0 ∧ u.1 64 = 0 ∧ u.1 61 = 0 ∧ u.1 60 = 0 ∧ u.1 59 = (fuel : Int) ∧ u.1 62 = 0 ∧ u.1 63 = 0) ∧ 0 ≤ k ∧ k < u.1 8
/-- nothing was done -/
theorem CmO.no [DecidableEq Ob] {u v : iST} {H : Sp.Hs} {m : List Ob} {a : Int} (h : HX u H m) (bg : BgOk u) (g : GZ f7K u v) (v64 : v.1 64 = 0) (v60 : v.1 60 = 0) (v62 : v.1 62 = 0) (ha : ¬ (a = 5 ∨ a = 6)) : CmO u v (Sp.nothing H) a :=
  ⟨v64, ⟨(g.2.2.2.2 59 (f7K_out (by decide))).1, (g.2.2.2.2 12 (f7K_out (by decide))).2⟩, v60, by rw [if_neg ha]; rfl, by rw [v62]; exact bq0 rfl, m, h.keep g, fun _ => bg.keep g⟩
theorem hasIt_len [DecidableEq Ob] {o : Ob} {i : Nat} (h : (i : Int) < o.len) : hasIt o i := by
  have hl : o.len ≠ -1 := by omega
  rw [← Ob.ofList_toList o hl]
  exact hasIt_ofList _ _ (by rw [Ob.len_toList hl] at h; omega)
theorem p_nthL [DecidableEq Ob] {a i : Int} {Q : Int → iST → Prop} {u : iST} (hT : TI u) (a0 : 0 ≤ a) (a1 : a < u.1 8) (i0 : 0 ≤ i) (i1 : i < (ob u a).len) (h : ∀ k, 0 ≤ k → k < u.1 8 → ob u k = (ob u a).item i.toNat → Q k u) : pw_nth a i Q u := by
  have hle := ob_len_le hT _ a (Nat.lt_succ_self _) a0 a1
  have := hT.le
  exact p_nth hT a0 a1 i0 (by omega) (hasIt_len (by omega)) h
theorem df_303 [DecidableEq Ob] {x3 x4 x5 x6 x7 x8 : Int} {Q : Int → iST → Prop} {w : iST} {H : Sp.Hs} {xs : List Ob} (h : HX w H []) (bg : BgOk w) (b8 : w.1 132 ≤ x8) (w8 : x8 ≤ w.1 8)
    (n3 : 0 ≤ x3 ∧ x3 < x8) (n4 : 0 ≤ x4 ∧ x4 < x8) (e4 : ob w x4 = Ob.ofList xs) (n5 : 0 ≤ x5 ∧ x5 < x8 ∧ Tm w (ob w x5)) (n6 : x7 ≠ 0 → 0 ≤ x6 ∧ x6 < x8 ∧ Tm w (ob w x6))
    (wf : Sp.DfnWf (H.1 ++ [(ob w x3, xs, ob w x5, if x7 ≠ 0 then some (ob w x6) else none)], H.2.1, []) (ob w x3, xs, ob w x5, if x7 ≠ 0 then some (ob w x6) else none)) (fr : ∀ X, X ∈ H.1 → X.1 ≠ ob w x3)
    (hq : ∀ v, HX v (Sp.addDef H (ob w x3, xs, ob w x5, if x7 ≠ 0 then some (ob w x6) else none)) [] → v.1 54 = w.1 54 + 1 → v.1 64 = w.1 64 → (v.1 59 = w.1 59 ∧ v.2.1 12 = w.2.1 12) → v.1 60 = w.1 60 → v.1 62 = w.1 62 → Q 0 v) : pw_defun_303 Q x3 x4 x5 x6 x7 x8 w := by
  obtain ⟨g1, g2, g3, g4⟩ := bg
  have hT := h.1
  have hU := h.2.1
  have d0 := h.2.2.1.1.2.1
  have t0 := h.2.2.2.2.2.1
  unfold pw_defun_303
  refine p_forgetH h (by omega) w8 (fun i i0 i1 => by have := g3 i i0 i1; omega) (g4.up b8) (fun y hy y8 yE yr yn => ?_)
  have hTy := hy.1
  have hUy := hy.2.1
  have h3 : w.2.1 3 = y.2.1 3 := (yr 3 (by decide)).symm
  have eo : ∀ k, 0 ≤ k → k < x8 → ob y k = ob w k := fun k k0 k1 => (yE.ob hTy hT k0 (by omega)).symm
  have tm : ∀ k, 0 ≤ k → k < x8 → Tm w (ob w k) → Tm y (ob w k) := fun k k0 k1 ht => Tm_back hT hTy hU yE h3 _ false k (Nat.lt_succ_self _) k0 (by omega) ht
  have bgy : BgOk y := by
    have y132 : y.1 132 = w.1 132 := yn 132 (by decide) (by decide) (by decide)
    have y54 : y.1 54 = w.1 54 := yn 54 (by decide) (by decide) (by decide)
    have es : srt y = srt w := by unfold srt; rw [y54, yr 55 (by decide)]
    refine ⟨by omega, by omega, fun i i0 i1 => by rw [yr 56 (by decide), y132]; exact g3 i i0 (by omega), ?_⟩
    rw [y132, y54]
    exact g4.keep es (fun k a b => yr k (by omega))
  have y35 : y.1 35 = w.1 35 := yn 35 (by decide) (by decide) (by decide)
  intro a ea _ _ _ t1 et1 b eb _
  have hb : b = y.1 35 := by rw [eb, et1]; rfl
  rw [ea] at et1
  have eo1 : ∀ j, ob t1 j = ob y j := by rw [et1]; exact ob_same rfl rfl rfl rfl rfl
  have gt1 : GZ (fun _ => true) y t1 := by rw [et1]; exact GZ_eq (GZ.rf hTy hUy) (fun k hk => ⟨rfl, if_neg (by omega)⟩) rfl (fun k z => by cases z)
  have t18 : t1.1 8 = x8 := by rw [et1]; exact y8
  refine p_lengthOf gt1.1 gt1.2.1 n4.1 (by omega) ?_
  rw [eo1, eo x4 n4.1 n4.2, e4, Ob.len_ofList, hb]
  intro _ _ t2 et2
  have gt2 : GZ (fun _ => true) t1 t2 := by rw [et2]; exact GZ_eq (GZ.rf gt1.1 gt1.2.1) (fun k hk => ⟨rfl, if_neg (by omega)⟩) rfl (fun k z => by cases z)
  have eo2 : ∀ j, ob t2 j = ob y j := fun j => (ob_same (u := t1) (v := t2) (by rw [et2]; rfl) (by rw [et2]; rfl) (by rw [et2]; rfl) (by rw [et2]; rfl) (by rw [et2]; rfl) j).trans (eo1 j)
  have e2n : t2.1 = y.1 := by rw [et2, et1]; rfl
  have e2r : ∀ k, k ≠ 36 → k ≠ 37 → t2.2.1 k = y.2.1 k := fun k a b => by rw [et2, et1]; exact (if_neg b).trans (if_neg a)
  have e36 : ∀ d, t2.2.1 36 d = if d = y.1 35 then x3 else y.2.1 36 d := fun d => by rw [et2, et1]; rfl
  have e37 : ∀ d, t2.2.1 37 d = if d = y.1 35 then (xs.length : Int) else y.2.1 37 d := fun d => by rw [et2, et1]; rfl
  have e2L : t2.2.2 = y.2.2 := by rw [et2, et1]; rfl
  clear et1 et2 eb ea
  have gy2 := gt1.tr gt2
  have hlen : xs.length ≤ 6 := wf.2.1.1
  -- the parameters
  refine pw_defun_337_i (fun a4 a5 a6 a7 a9 v => a4 = x4 ∧ a5 = x5 ∧ a6 = x6 ∧ a7 = x7 ∧ ∃ i : Nat, a9 = (i : Int) ∧ i ≤ xs.length ∧ GZ (fun _ => true) y v ∧ v.1 = y.1 ∧ (∀ k, k ≠ 38 → v.2.1 k = t2.2.1 k) ∧ v.2.2 = y.2.2 ∧ (∀ j, j < 6 * y.1 35 → v.2.1 38 j = y.2.1 38 j) ∧ ∀ j : Nat, j < i → 0 ≤ v.2.1 38 (6 * y.1 35 + (j : Int)) ∧ v.2.1 38 (6 * y.1 35 + (j : Int)) < x8 ∧ ob y (v.2.1 38 (6 * y.1 35 + (j : Int))) = xs.getD j Ob.nil) ?_ ⟨rfl, rfl, rfl, rfl, 0, rfl, Nat.zero_le _, gy2, e2n, fun _ _ => rfl, e2L, fun j _ => by rw [e2r 38 (by decide) (by decide)], fun j hj => by omega⟩
  intro a4 a5 a6 a7 a9 v hI
  obtain ⟨e4', e5', e6', e7', i, e9, hi, gv, vn, vr', vL, v38, vp⟩ := hI
  rw [e4', e5', e6', e7', e9]
  have eov : ∀ j, ob v j = ob y j := ob_same (by rw [vr' 0 (by decide), e2r 0 (by decide) (by decide)]) (by rw [vr' 1 (by decide), e2r 1 (by decide) (by decide)]) (by rw [vr' 9 (by decide), e2r 9 (by decide) (by decide)]) (by rw [vr' 10 (by decide), e2r 10 (by decide) (by decide)]) vL
  unfold pw_defun_337b
  intro c ec _ _ _ c2 ec2 _
  rw [vn] at ec
  rw [ec, vr' 37 (by decide), e37, if_pos rfl] at ec2
  rw [ec2]
  refine ⟨fun hc => ?_, fun hc => ?_⟩
  · have ix : i = xs.length := by omega
    intro p ep _ _ _ s1 es1 p2 ep2 _ _ _ s2 es2 p3 ep3 _ _ _ _ s3 es3 p4 ep4 _ _ s4 es4
    rw [vn] at ep
    have hp2 : p2 = y.1 35 := by rw [ep2, es1]; show v.1 35 = _; rw [vn]
    have hp3 : p3 = y.1 35 := by rw [ep3, es2, es1]; show v.1 35 = _; rw [vn]
    have hp4 : p4 = y.1 35 := by rw [ep4, es3, es2, es1]; show v.1 35 = _; rw [vn]
    rw [ep] at es1
    rw [hp2] at es2
    rw [hp3] at es3
    rw [hp4] at es4
    have sn : ∀ k, k ≠ 35 → s4.1 k = y.1 k := fun k hk => by rw [es4, es3, es2, es1, ← vn]; exact if_neg hk
    have s35 : s4.1 35 = y.1 35 + 1 := by rw [es4]; rfl
    have sr : ∀ k, k ≠ 39 → k ≠ 40 → k ≠ 41 → s4.2.1 k = v.2.1 k := fun k a b c => by rw [es4, es3, es2, es1]; exact (if_neg c).trans ((if_neg b).trans (if_neg a))
    have s39 : ∀ d, s4.2.1 39 d = if d = y.1 35 then x5 else v.2.1 39 d := fun d => by rw [es4, es3, es2, es1]; rfl
    have s40 : ∀ d, s4.2.1 40 d = if d = y.1 35 then x6 else v.2.1 40 d := fun d => by rw [es4, es3, es2, es1]; rfl
    have s41 : ∀ d, s4.2.1 41 d = if d = y.1 35 then x7 else v.2.1 41 d := fun d => by rw [es4, es3, es2, es1]; rfl
    have sL : s4.2.2 = y.2.2 := by rw [es4, es3, es2, es1]; exact vL
    clear es1 es2 es3 es4
    refine p_take (by rw [sn 54 (by decide)]; exact hy.2.2.2.2.2.1) (fun z zn z54 zr z55 z56 zL => ?_)
    rw [sn 54 (by decide)] at z54 z55 z56
    rw [sn 132 (by decide)] at z56
    have s55 : ∀ k, k = 55 ∨ k = 56 → s4.2.1 k = y.2.1 k := fun k hk => by rw [sr k (by omega) (by omega) (by omega), vr' k (by omega), e2r k (by omega) (by omega)]
    rw [s55 55 (Or.inl rfl)] at z55
    rw [s55 56 (Or.inr rfl)] at z56
    have zr' : ∀ k, k ≠ 36 → k ≠ 37 → k ≠ 38 → k ≠ 39 → k ≠ 40 → k ≠ 41 → k ≠ 55 → k ≠ 56 → z.2.1 k = y.2.1 k := fun k a1 a2 a3 a4 a5 a6 a7 a8 => by rw [zr k a7 a8, sr k a4 a5 a6, vr' k a3, e2r k a1 a2]
    have z36 : ∀ d, z.2.1 36 d = if d = y.1 35 then x3 else y.2.1 36 d := fun d => by rw [zr 36 (by decide) (by decide), sr 36 (by decide) (by decide) (by decide), vr' 36 (by decide), e36]
    have z37 : ∀ d, z.2.1 37 d = if d = y.1 35 then (xs.length : Int) else y.2.1 37 d := fun d => by rw [zr 37 (by decide) (by decide), sr 37 (by decide) (by decide) (by decide), vr' 37 (by decide), e37]
    have z38 : z.2.1 38 = v.2.1 38 := by rw [zr 38 (by decide) (by decide), sr 38 (by decide) (by decide) (by decide)]
    have z39 : ∀ d, z.2.1 39 d = if d = y.1 35 then x5 else y.2.1 39 d := fun d => by rw [zr 39 (by decide) (by decide), s39, vr' 39 (by decide), e2r 39 (by decide) (by decide)]
    have z40 : ∀ d, z.2.1 40 d = if d = y.1 35 then x6 else y.2.1 40 d := fun d => by rw [zr 40 (by decide) (by decide), s40, vr' 40 (by decide), e2r 40 (by decide) (by decide)]
    have z41 : ∀ d, z.2.1 41 d = if d = y.1 35 then x7 else y.2.1 41 d := fun d => by rw [zr 41 (by decide) (by decide), s41, vr' 41 (by decide), e2r 41 (by decide) (by decide)]
    have zL' : z.2.2 = y.2.2 := zL.trans sL
    have zt : ∀ k, k ≤ 11 → z.1 k = y.1 k ∧ z.2.1 k = y.2.1 k := fun k hk => ⟨(zn k (by omega)).trans (sn k (by omega)), zr' k (by omega) (by omega) (by omega) (by omega) (by omega) (by omega) (by omega) (by omega)⟩
    have gz : GZ (fun _ => true) y z := GZ_eq (GZ.rf hTy hUy) zt zL' (fun k q => by cases q)
    have eoz : ∀ j, ob z j = ob y j := ob_same (zt 0 (by decide)).2 (zt 1 (by decide)).2 (zt 9 (by decide)).2 (zt 10 (by decide)).2 zL'
    have z8 : z.1 8 = x8 := ((zt 8 (by decide)).1).trans y8
    have ez : ∀ k, 0 ≤ k → k < x8 → ob z k = ob w k := fun k k0 k1 => (eoz k).trans (eo k k0 k1)
    have tz : ∀ k, 0 ≤ k → k < x8 → Tm w (ob w k) → Tm z (ob z k) := fun k k0 k1 ht => by
      rw [ez k k0 k1]; exact (tm k k0 k1 ht).mono gz hTy
    have hprm : prm z (y.1 35) = xs := by
      unfold prm
      rw [z37, if_pos rfl, z38, show ((xs.length : Int)).toNat = xs.length by omega]
      refine List.ext_getElem (by simp) (fun j hj1 hj2 => ?_)
      rw [List.getElem_map, List.getElem_range, eoz, (vp j (by omega)).2.2, List.getD_eq_getElem?_getD, List.getElem?_eq_getElem hj2]
      rfl
    refine hq z (HX_def (D := (ob w x3, xs, ob w x5, if x7 ≠ 0 then some (ob w x6) else none)) hy bgy zt zL' ?_ ?_ ?_ ?_ ?_ ?_ ?_ ?_ wf fr z54 z55 z56) ?_ ?_ ?_ ?_ ?_
    · rw [zn 57 (by decide), sn 57 (by decide)]; exact hy.2.2.1.2.1
    · rw [zn 42 (by decide), sn 42 (by decide)]
    · exact fun k a b => zr' k (by omega) (by omega) (by omega) (by omega) (by omega) (by omega) (by omega) (by omega)
    · rw [zn 35 (by decide), s35]
    · intro k d a b c d0' d1
      have : k = 36 ∨ k = 37 ∨ k = 39 ∨ k = 40 ∨ k = 41 := by omega
      rcases this with q | q | q | q | q <;> rw [q]
      · rw [z36, if_neg (by omega)]
      · rw [z37, if_neg (by omega)]
      · rw [z39, if_neg (by omega)]
      · rw [z40, if_neg (by omega)]
      · rw [z41, if_neg (by omega)]
    · intro j hj
      rw [z38]; exact v38 j hj
    · unfold D1
      rw [z36, z37, z38, z39, z40, z41, if_pos rfl, if_pos rfl, if_pos rfl, if_pos rfl, if_pos rfl, z8]
      refine ⟨⟨n3.1, n3.2, by rw [ez x3 n3.1 n3.2]; exact wf.1⟩, ⟨by omega, by omega, fun j j0 j1 => ?_⟩, ⟨n5.1, n5.2.1, tz x5 n5.1 n5.2.1 n5.2.2⟩, fun q => ⟨(n6 q).1, (n6 q).2.1, tz x6 (n6 q).1 (n6 q).2.1 (n6 q).2.2⟩⟩
      have := vp j.toNat (by omega)
      rw [show ((j.toNat : Nat) : Int) = j by omega] at this
      exact ⟨this.1, this.2.1⟩
    · unfold dfn1
      rw [hprm, z36, z39, z40, z41, if_pos rfl, if_pos rfl, if_pos rfl, if_pos rfl, ez x3 n3.1 n3.2, ez x5 n5.1 n5.2.1]
      by_cases q : x7 ≠ 0
      · rw [if_pos q, if_pos q, ez x6 (n6 q).1 (n6 q).2.1]
      · rw [if_neg q, if_neg q]
    · rw [z54, yn 54 (by decide) (by decide) (by decide)]
    · rw [zn 64 (by decide), sn 64 (by decide), yn 64 (by decide) (by decide) (by decide)]
    · exact ⟨by rw [zn 59 (by decide), sn 59 (by decide), yn 59 (by decide) (by decide) (by decide)], by rw [zr' 12 (by decide) (by decide) (by decide) (by decide) (by decide) (by decide) (by decide) (by decide), yr 12 (by decide)]⟩
    · rw [zn 60 (by decide), sn 60 (by decide), yn 60 (by decide) (by decide) (by decide)]
    · rw [zn 62 (by decide), sn 62 (by decide), yn 62 (by decide) (by decide) (by decide)]
  · intro p ep _ _ _
    rw [vn] at ep
    rw [ep]
    have v8 : v.1 8 = x8 := by rw [vn]; exact y8
    have el : ob v x4 = Ob.ofList xs := by rw [eov, eo x4 n4.1 n4.2, e4]
    refine p_nthL gv.1 n4.1 (by omega) (by omega) (by rw [el, Ob.len_ofList]; omega) (fun k k0 k1 ek => ?_)
    rw [el, Ob.item_get, Ob.toList_ofList, show ((i : Int)).toNat = i by omega] at ek
    intro _ _ t et _
    have gt : GZ (fun _ => true) v t := by rw [et]; exact GZ_eq (GZ.rf gv.1 gv.2.1) (fun k hk => ⟨rfl, if_neg (by omega)⟩) rfl (fun k z => by cases z)
    have t38 : ∀ j, t.2.1 38 j = if j = 6 * y.1 35 + (i : Int) then k else v.2.1 38 j := fun j => by rw [et]; rfl
    refine ⟨rfl, rfl, rfl, rfl, i + 1, by omega, by omega, gv.tr gt, by rw [et]; exact vn, fun q hq' => by rw [et]; exact (if_neg hq').trans (vr' q hq'), by rw [et]; exact vL, fun j hj => by rw [t38, if_neg (by omega)]; exact v38 j hj, fun j hj => ?_⟩
    rw [t38]
    by_cases cj : j = i
    · rw [if_pos (by omega), cj]
      exact ⟨k0, by omega, by rw [← eov]; exact ek⟩
    · rw [if_neg (by omega)]; exact vp j (by omega)
