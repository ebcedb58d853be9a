-- deps: 562
/-! the reference: tell -/
def Sp.tellOb [DecidableEq Ob] (H : Sp.Hs) (k : Nat) : Ob :=
  if H.2.2.getD k 0 = 1 then (match H.1[Sp.nd (H.2.2.take k)]? with | some D => .pr Ob.defun (.pr D.name (.pr (Ob.ofList D.params) (.pr D.body (match D.meas with | some M => .pr M Ob.nil | none => Ob.nil)))) | none => Ob.nil)
  else (match H.2.1[k - Sp.nd (H.2.2.take k)]? with | some t => .pr Ob.thmS (.pr t.name (.pr t.form Ob.nil)) | none => Ob.nil)
def Sp.tellC [DecidableEq Ob] (H : Sp.Hs) (k : Int) : Int := if k < 0 ∨ (H.2.2.length : Int) ≤ k then -1 else (((Ob.told (Sp.tellOb H k.toNat)).take 2000).length : Int)
theorem p_list1G [DecidableEq Ob] {x : Int} {Q : Int → iST → Prop} {u : iST} (hT : TI u) (hU : TU u) (x0 : 0 ≤ x) (x1 : x < u.1 8) (hq : ∀ k v, GZ fT u v → 0 ≤ k → k < v.1 8 → ob v k = .pr (ob u x) Ob.nil → Q k v) : pw_list1 x Q u := by
  have k0 := kn hT hU 0 (by decide) (by decide) rfl
  unfold pw_list1
  exact p_pair hT hU x0 x1 k0.1 k0.2.1 (fun k v gv w0 w1 ek => hq k v gv.gz w0 w1 (by rw [ek, k0.2.2]))
theorem p_list2G [DecidableEq Ob] {x y : Int} {Q : Int → iST → Prop} {u : iST} (hT : TI u) (hU : TU u) (x0 : 0 ≤ x) (x1 : x < u.1 8) (y0 : 0 ≤ y) (y1 : y < u.1 8) (hq : ∀ k v, GZ fT u v → 0 ≤ k → k < v.1 8 → ob v k = .pr (ob u x) (.pr (ob u y) Ob.nil) → Q k v) : pw_list2 x y Q u := by
  unfold pw_list2
  refine p_list1G hT hU y0 y1 (fun k v gv k0 k1 ek => ?_)
  have hle := gv.le
  exact p_pair gv.1 gv.2.1 x0 (by omega) k0 k1 (fun k' v' gv' w0 w1 ek' => hq k' v' (gv.tr gv'.gz) w0 w1 (by rw [ek', ek, gv.ob hT x0 x1]))
theorem p_list3G [DecidableEq Ob] {x y z : Int} {Q : Int → iST → Prop} {u : iST} (hT : TI u) (hU : TU u) (x0 : 0 ≤ x) (x1 : x < u.1 8) (y0 : 0 ≤ y) (y1 : y < u.1 8) (z0 : 0 ≤ z) (z1 : z < u.1 8) (hq : ∀ k v, GZ fT u v → 0 ≤ k → k < v.1 8 → ob v k = .pr (ob u x) (.pr (ob u y) (.pr (ob u z) Ob.nil)) → Q k v) : pw_list3 x y z Q u := by
  unfold pw_list3
  refine p_list2G hT hU y0 y1 z0 z1 (fun k v gv k0 k1 ek => ?_)
  have hle := gv.le
  exact p_pair gv.1 gv.2.1 x0 (by omega) k0 k1 (fun k' v' gv' w0 w1 ek' => hq k' v' (gv.tr gv'.gz) w0 w1 (by rw [ek', ek, gv.ob hT x0 x1]))
theorem nd_at [DecidableEq Ob] {l : List Int} {k : Nat} {c : Int} (h : l[k]? = some c) : (c = 1 → Sp.nd (l.take k) < Sp.nd l) ∧ (c ≠ 1 → k - Sp.nd (l.take k) < l.length - Sp.nd l) := by
  have hk : k < l.length := by
    by_cases q : k < l.length
    · exact q
    · rw [List.getElem?_eq_none (by omega)] at h; cases h
  have e : l = l.take k ++ (c :: l.drop (k + 1)) := by
    have h2 : l[k] = c := by rw [List.getElem?_eq_getElem hk] at h; exact Option.some.inj h
    rw [← h2, List.getElem_cons_drop, List.take_append_drop]
  have hn : Sp.nd l = Sp.nd (l.take k) + (Sp.nd (l.drop (k + 1)) + (if c = 1 then 1 else 0)) := by
    have := nd_app (l.take k) (c :: l.drop (k + 1))
    rw [← e] at this
    exact this
  have l1 := nd_le (l.take k)
  have l2 := nd_le (l.drop (k + 1))
  rw [List.length_drop] at l2
  rw [List.length_take] at l1
  refine ⟨fun h1 => by rw [if_pos h1] at hn; omega, fun h1 => by rw [if_neg h1] at hn; omega⟩
theorem p_tellS [DecidableEq Ob] {k : Int} {Q : Int → iST → Prop} {u : iST} {S : Sp.St} (hS : RfS u S) (hq : ∀ v, RfS v S → Q (Sp.tellC S.1 k) v) : pw_tell k Q u := by
  obtain ⟨⟨m, hX⟩, s64, s59, s14, swt, s60, s63, s62⟩ := hS
  have hS' : RfS u S := ⟨⟨m, hX⟩, s64, s59, s14, swt, s60, s63, s62⟩
  have hT := hX.1
  have hU := hX.2.1
  obtain ⟨e35, e42, etk, elen⟩ := hX.nums
  obtain ⟨hD, h57, hW, hTk⟩ := hX.2.2.1
  have h7 : S.1.2.2 = srt u := hX.2.2.2.2.2.2.1
  have h54 := hX.2.2.2.2.2.1
  have eD : S.1.1 = dfs u := hD.1
  have eT : S.1.2.1 = thmsL u := hTk.1
  have bad : (k < 0 ∨ u.1 54 ≤ k) → Q (-1) u := fun h => by
    have := hq u hS'
    unfold Sp.tellC at this
    rw [if_pos (by rw [h7, elen]; omega)] at this
    exact this
  unfold pw_tell
  refine ⟨fun h => bad (Or.inl h), fun h0 => ?_⟩
  intro x ex _
  rw [ex]
  refine ⟨fun hlt => ?_, fun h => bad (Or.inr (by omega))⟩
  have hno : ¬ (k < 0 ∨ (S.1.2.2.length : Int) ≤ k) := by rw [h7, elen]; omega
  unfold Sp.tellC at hq
  rw [if_neg hno] at hq
  intro mark em _
  have sg : ∀ i : Int, 0 ≤ i → i < u.1 54 → (srt u)[i.toNat]? = some (u.2.1 55 i) := fun i i0 i1 => by
    unfold srt
    rw [List.getElem?_map, List.getElem?_range (by omega)]
    show some (u.2.1 55 ((i.toNat : Nat) : Int)) = _
    rw [show ((i.toNat : Nat) : Int) = i by omega]
  -- the end
  have fin : ∀ (v : iST) (o : Int), GZ fT u v → 0 ≤ o → o < v.1 8 → ob v o = Sp.tellOb S.1 k.toNat → pw_tellOut o (fun u => pw_tell_225 Q mark u) v := by
    intro v o gv o0 o1 eo
    refine p_tellOut gv.1 gv.2.1 (by rw [(gv.2.2.2.2 64 (by decide)).1]; exact s64) o0 o1 (fun w gw w64 w16 => ?_)
    have gz : GZ f7K u w := (gv.mono fT_K).tr (gw.mono f7T_K)
    have hXw := hX.keep gz
    have q : ∀ j, 35 ≤ j → j ≤ 57 → w.1 j = u.1 j ∧ w.2.1 j = u.2.1 j := fun j a b => gz.2.2.2.2 j (f7K_mid j a b)
    have e54 := (q 54 (by decide) (by decide)).1
    have es : srt w = srt u := by unfold srt; rw [e54, (q 55 (by decide) (by decide)).2]
    have hle := gz.le
    unfold pw_tell_225
    rw [em]
    refine p_forgetH hXw hT.1 hle (fun i i0 i1 => by rw [(q 56 (by decide) (by decide)).2]; exact (hX.2.2.2.2.2.2.2 i i0 (by omega)).2.1) (by rw [e54]; exact hX.low.keep es (fun j a b => (q j a (by omega)).2)) (fun y hXy y8 yE yr yn => ?_)
    intro z ez _
    rw [ez, yn 16 (by decide) (by decide) (by decide), w16, eo]
    have nn : ∀ j, 11 < j → f7T j = false → y.1 j = u.1 j ∧ y.2.1 j = u.2.1 j := fun j hj ht => by
      have ft : fT j = false := decide_eq_false (by omega)
      exact ⟨by rw [yn j (by omega) (by omega) (by omega), (gw.2.2.2.2 j ht).1, (gv.2.2.2.2 j ft).1], by rw [yr j (by omega), (gw.2.2.2.2 j ht).2, (gv.2.2.2.2 j ft).2]⟩
    refine hq y ⟨⟨m, hXy⟩, by rw [yn 64 (by decide) (by decide) (by decide)]; exact w64, by rw [(nn 59 (by decide) (by decide)).1]; exact s59, ⟨by rw [(nn 14 (by decide) (by decide)).1]; exact s14.1, by rw [tx_same (nn 14 (by decide) (by decide)).1 (nn 13 (by decide) (by decide)).2]; exact s14.2⟩, by unfold wtg; rw [(nn 12 (by decide) (by decide)).2]; exact swt, by rw [(nn 60 (by decide) (by decide)).1]; exact s60, by rw [(nn 63 (by decide) (by decide)).1]; exact s63, by rw [(nn 62 (by decide) (by decide)).1]; exact s62⟩
  refine pw_tell_24_i (fun x1 x2 x3 x4 v => x1 = k ∧ x2 = mark ∧ v = u ∧ 0 ≤ x4 ∧ x4 ≤ k ∧ x3 = if u.2.1 55 k = 1 then (Sp.nd ((srt u).take x4.toNat) : Int) else x4 - (Sp.nd ((srt u).take x4.toNat) : Int)) ?_ ⟨rfl, rfl, rfl, Int.le_refl _, by omega, by split <;> rfl⟩
  rintro x1 x2 x3 x4 v ⟨e1, e2, ev, a0, a1, e3⟩
  rw [e1, e2, ev]
  unfold pw_tell_24b
  refine ⟨fun hge => ?_, fun hlt2 => ?_⟩
  · have hx : x4 = k := by omega
    rw [hx] at e3
    have at1 := nd_at (sg k (by omega) hlt)
    have hgd : S.1.2.2.getD k.toNat 0 = u.2.1 55 k := by rw [h7, List.getD_eq_getElem?_getD, sg k (by omega) hlt]; rfl
    have hnl := nd_le ((srt u).take k.toNat)
    rw [List.length_take] at hnl
    intro _ _ s es _
    rw [es]
    refine ⟨fun hs => ?_, fun hs => ?_⟩
    · -- a theorem
      rw [if_neg hs] at e3
      have hlt3 := at1.2 hs
      have x30 : 0 ≤ x3 := by omega
      have x31 : x3 < u.1 42 := by omega
      obtain ⟨t1, t2, _⟩ := hTk.2.2.1 x3 x30 x31
      intro _ _ p ep _ _ _ q eq _
      rw [ep, eq]
      have k18 := kn hT hU 18 (by decide) (by decide) rfl
      refine p_list3G hT hU k18.1 k18.2.1 t1.1 t1.2 t2.1 t2.2 (fun o w gw o0 o1 eo => fin w o gw o0 o1 ?_)
      rw [eo, k18.2.2]
      unfold Sp.tellOb
      rw [if_neg (by rw [hgd]; exact hs), h7, show k.toNat - Sp.nd ((srt u).take k.toNat) = x3.toNat by omega, eT]
      unfold thmsL
      rw [List.getElem?_map, List.getElem?_range (by omega)]
      show _ = Ob.pr Ob.thmS (.pr (thm1 u ((x3.toNat : Nat) : Int)).name (.pr (thm1 u ((x3.toNat : Nat) : Int)).form Ob.nil))
      rw [show ((x3.toNat : Nat) : Int) = x3 by omega]
      rfl
    · -- a definition
      have hs := Decidable.not_not.mp hs
      rw [if_pos hs] at e3
      have hlt3 := at1.1 hs
      have x30 : 0 ≤ x3 := by omega
      have x31 : x3 < u.1 35 := by omega
      obtain ⟨d1, d2, d3, d4⟩ := hD.2.2 x3 x30 x31
      have etell : Sp.tellOb S.1 k.toNat = .pr Ob.defun (.pr (ob u (u.2.1 36 x3)) (.pr (Ob.ofList (prm u x3)) (.pr (ob u (u.2.1 39 x3)) (if u.2.1 41 x3 ≠ 0 then .pr (ob u (u.2.1 40 x3)) Ob.nil else Ob.nil)))) := by
        unfold Sp.tellOb
        rw [if_pos (by rw [hgd]; exact hs), h7, show Sp.nd ((srt u).take k.toNat) = x3.toNat by omega, eD]
        unfold dfs
        rw [List.getElem?_map, List.getElem?_range (by omega)]
        show Ob.pr Ob.defun (.pr (dfn1 u ((x3.toNat : Nat) : Int)).name (.pr (Ob.ofList (dfn1 u ((x3.toNat : Nat) : Int)).params) (.pr (dfn1 u ((x3.toNat : Nat) : Int)).body (match (dfn1 u ((x3.toNat : Nat) : Int)).meas with | some M => .pr M Ob.nil | none => Ob.nil)))) = _
        rw [show ((x3.toNat : Nat) : Int) = x3 by omega]
        show Ob.pr Ob.defun (.pr (ob u (u.2.1 36 x3)) (.pr (Ob.ofList (prm u x3)) (.pr (ob u (u.2.1 39 x3)) (match (if u.2.1 41 x3 ≠ 0 then some (ob u (u.2.1 40 x3)) else none) with | some M => .pr M Ob.nil | none => Ob.nil)))) = _
        by_cases q : u.2.1 41 x3 ≠ 0
        · rw [if_pos q, if_pos q]
        · rw [if_neg q, if_neg q]
      have hpl : (prm u x3).length = (u.2.1 37 x3).toNat := by unfold prm; simp
      intro _ _ n en _ _
      rw [en]
      have k0 := kn hT hU 0 (by decide) (by decide) rfl
      refine pw_tell_101_i (fun y2 y3 y4 y5 v => y2 = mark ∧ y3 = x3 ∧ GZ fT u v ∧ 0 ≤ y4 ∧ y4 < v.1 8 ∧ -1 ≤ y5 ∧ y5 < u.2.1 37 x3 ∧ ob v y4 = Ob.ofList ((prm u x3).drop (y5 + 1).toNat)) ?_ ⟨rfl, rfl, GZ.rf hT hU, k0.1, k0.2.1, by omega, by omega, by rw [List.drop_eq_nil_of_le (by omega)]; exact k0.2.2⟩
      rintro y2 y3 y4 y5 v ⟨f2, f3, gv, b0, b1, b2, b3, eo⟩
      rw [f2, f3]
      have r : ∀ j, 11 < j → v.2.1 j = u.2.1 j := fun j hj => (gv.2.2.2.2 j (decide_eq_false (by omega))).2
      have hle := gv.le
      unfold pw_tell_101b
      refine ⟨fun hneg => ?_, fun hpos => ?_⟩
      · rw [show (y5 + 1).toNat = 0 by omega, List.drop_zero] at eo
        have tail : ∀ (w : iST) (t : Int), GZ fT v w → 0 ≤ t → t < w.1 8 → ob w t = .pr (ob u (u.2.1 39 x3)) (if u.2.1 41 x3 ≠ 0 then .pr (ob u (u.2.1 40 x3)) Ob.nil else Ob.nil) → pw_tell_170 Q mark x3 y4 t w := by
          intro w t gw t0 t1 et
          have hle2 := gw.le
          unfold pw_tell_170
          intro _ _ nm enm _
          rw [(gw.2.2.2.2 36 (by decide)).2, r 36 (by decide)] at enm
          refine p_pair gw.1 gw.2.1 b0 (by omega) t0 t1 (fun o1 w1 g1 p0 p1 ep => ?_)
          have hle3 := g1.gz.le
          have g01 := (gv.tr gw).tr g1.gz
          refine p_pair g1.1 g1.2.1 (by rw [enm]; exact d1.1) (by rw [enm]; have := d1.2.1; omega) p0 p1 (fun o2 w2 g2 q0 q1 eq => ?_)
          have k17 := kn g2.1 g2.2.1 17 (by decide) (by decide) rfl
          refine p_pair g2.1 g2.2.1 k17.1 k17.2.1 q0 q1 (fun o3 w3 g3 s0 s1 es3 => fin w3 o3 ((g01.tr g2.gz).tr g3.gz) s0 s1 ?_)
          rw [es3, k17.2.2, eq, ep, et, gw.ob gv.1 b0 b1, eo, enm, g01.ob hT d1.1 d1.2.1, etell]
        intro _ _ c ec _
        rw [ec, r 41 (by decide)]
        refine ⟨fun h41 => ?_, fun h41 => ?_⟩
        · intro _ _ p ep _
          rw [r 39 (by decide)] at ep
          rw [ep]
          refine p_list1G gv.1 gv.2.1 d3.1 (by have := d3.2.1; omega) (fun t w gw t0 t1 et => tail w t gw t0 t1 ?_)
          rw [et, gv.ob hT d3.1 d3.2.1, if_neg (fun z => z h41)]
        · intro _ _ p ep _ _ _ q eq _
          rw [r 39 (by decide)] at ep
          rw [r 40 (by decide)] at eq
          obtain ⟨m1, m2, m3⟩ := d4 h41
          rw [ep, eq]
          refine p_list2G gv.1 gv.2.1 d3.1 (by have := d3.2.1; omega) m1 (by omega) (fun t w gw t0 t1 et => tail w t gw t0 t1 ?_)
          rw [et, gv.ob hT d3.1 d3.2.1, gv.ob hT m1 m2, if_pos h41]
      · intro _ _ _ _ p ep _
        rw [r 38 (by decide)] at ep
        obtain ⟨v0, v1⟩ := d2.2.2 y5 (by omega) b3
        rw [ep]
        refine p_pair gv.1 gv.2.1 v0 (by omega) b0 b1 (fun o w gw o0 o1 eo2 => ?_)
        intro _
        refine ⟨rfl, rfl, gv.tr gw.gz, o0, o1, by omega, by omega, ?_⟩
        rw [eo2, gv.ob hT v0 v1, eo, show (y5 + -1 + 1).toNat = y5.toNat by omega, drop_cons (prm u x3) y5.toNat Ob.nil (by omega), show (y5 + 1).toNat = y5.toNat + 1 by omega]
        have hg : (prm u x3)[y5.toNat]? = some (ob u (u.2.1 38 (6 * x3 + ((y5.toNat : Nat) : Int)))) := by
          unfold prm
          rw [List.getElem?_map, List.getElem?_range (by omega)]; rfl
        rw [List.getD_eq_getElem?_getD, hg, show ((y5.toNat : Nat) : Int) = y5 by omega]
        rfl
  · have tk : (srt u).take (x4 + 1).toNat = (srt u).take x4.toNat ++ [u.2.1 55 x4] := by
      rw [show (x4 + 1).toNat = x4.toNat + 1 by omega, List.take_add_one, sg x4 a0 (by omega)]
      rfl
    have hnd : (Sp.nd ((srt u).take (x4 + 1).toNat) : Int) = (Sp.nd ((srt u).take x4.toNat) : Int) + (if u.2.1 55 x4 = 1 then 1 else 0) := by
      rw [tk, nd_app]
      show ((_ + (0 + (if u.2.1 55 x4 = 1 then 1 else 0)) : Nat) : Int) = _
      split <;> omega
    have go : ∀ y1 : Int, (u.2.1 55 x4 = 1 ∧ y1 = 1 ∨ u.2.1 55 x4 ≠ 1 ∧ y1 = 0) → pw_tell_47 (fun x1 x2 x3 x4 v => x1 = k ∧ x2 = mark ∧ v = u ∧ 0 ≤ x4 ∧ x4 ≤ k ∧ x3 = if u.2.1 55 k = 1 then (Sp.nd ((srt u).take x4.toNat) : Int) else x4 - (Sp.nd ((srt u).take x4.toNat) : Int)) Q k mark x4 x3 y1 u := by
      intro y1 hy
      unfold pw_tell_47
      intro _ _ s es _
      rw [es]
      refine ⟨fun hs => ?_, fun hs => ?_⟩
      · unfold pw_tell_62
        refine ⟨fun hne => ?_, fun heq => ?_⟩
        · intro _ _
          refine ⟨rfl, rfl, rfl, by omega, by omega, ?_⟩
          rw [if_neg hs] at e3 ⊢
          rw [hnd, if_pos (by rcases hy with q | q <;> omega)]
          omega
        · intro _ _
          refine ⟨rfl, rfl, rfl, by omega, by omega, ?_⟩
          rw [if_neg hs] at e3 ⊢
          rw [hnd, if_neg (by rcases hy with q | q <;> omega)]
          omega
      · have hs := Decidable.not_not.mp hs
        unfold pw_tell_62
        refine ⟨fun hne => ?_, fun heq => ?_⟩
        · intro _ _
          refine ⟨rfl, rfl, rfl, by omega, by omega, ?_⟩
          rw [if_pos hs] at e3 ⊢
          rw [hnd, if_neg (by rcases hy with q | q <;> omega)]
          omega
        · intro _ _
          refine ⟨rfl, rfl, rfl, by omega, by omega, ?_⟩
          rw [if_pos hs] at e3 ⊢
          rw [hnd, if_pos (by rcases hy with q | q <;> omega)]
          omega
    intro _ _ s es _
    rw [es]
    exact ⟨fun hs => go 0 (Or.inr ⟨hs, rfl⟩), fun hs => go 1 (Or.inl ⟨Decidable.not_not.mp hs, rfl⟩)⟩
