-- deps: 736
/-! the class: rules compared, sought -/
theorem pc_writeA [DecidableEq Ob] {th k : Int} {Q : iST → Prop} {u : iST} (hT : CT u) (h : 0 ≤ u.2.1 54 th ∧ u.2.1 54 th ≤ slenI th) (hk : -1 ≤ k ∧ k < u.1 29) (h0 : k = -1 → Q u) (hq : ∀ v, VN u k → TlC th u v (Ob.told (oc u k)) → Q v) : pv_9_write th k Q u := by
  by_cases c : k = -1
  · rw [c]
    unfold pv_9_write
    refine fo_v_9_write_7 ?_
    unfold pv_9_write_7b
    exact ⟨fun _ => h0 c, fun _ _ _ _ => ⟨fun _ => h0 c, fun _ => ⟨fun _ => h0 c, fun z => absurd rfl z⟩⟩⟩
  · exact pc_write hT h ⟨by omega, hk.2⟩ (fun v hv => hq v ⟨by omega, hk.2⟩ hv)
theorem lowL_nil_l [DecidableEq Ob] : ∀ l : List Int, Ob.lowL [] l = decide (l ≠ [])
  | [] => rfl
  | _ :: _ => rfl
theorem lowL_nil_r [DecidableEq Ob] (a : Int) (l : List Int) : Ob.lowL (a :: l) [] = false := rfl
theorem lowL_cons [DecidableEq Ob] (a b : Int) (l m : List Int) : Ob.lowL (a :: l) (b :: m) = if a = b then Ob.lowL l m else decide (a < b) := rfl
theorem drop_lt [DecidableEq Ob] {l : List Int} {i : Nat} {a : Int} (h : l[i]? = some a) : l.drop i = a :: l.drop (i + 1) := by
  obtain ⟨hl, e⟩ := List.getElem?_eq_some_iff.mp h
  rw [List.drop_eq_getElem_cons hl, e]
/-- two texts compared -/
theorem pc_cmp [DecidableEq Ob] {c : Int} {Q : iST → Prop} {w : iST} {A B' : List Int} (hA : LtC 1 w = A) (hB : LtC 2 w = B') (l1 : 0 ≤ w.2.1 54 1) (l2 : 0 ≤ w.2.1 54 2)
    (h1 : ∀ y1 y2, Ob.lowL A B' = true → y1 = iA w 51 (17 * c + 3) 14 → y2 = iA y1 51 (17 * c + 8) (w.2.1 51 (17 * c + 8) - 0) → Q y2)
    (h0 : ∀ y1 y2, Ob.lowL A B' = false → y1 = iA w 51 (17 * c + 3) 12 → y2 = iA y1 51 (17 * c + 8) (w.2.1 51 (17 * c + 8) - 1) → Q y2) : pv_6_compare_76 Q c 0 w := by
  have a1 : A.length = (w.2.1 54 1).toNat := by rw [← hA]; exact LtC_len 1 w
  have a2 : B'.length = (w.2.1 54 2).toNat := by rw [← hB]; exact LtC_len 2 w
  -- the end, by the two letters
  have fin : ∀ p q : Int, Ob.lowL A B' = decide (p < q) → pv_6_compare_174 Q c p q w := by
    intro p q he
    unfold pv_6_compare_174
    refine ⟨fun z => ?_, fun z => ?_⟩
    · rw [decide_eq_false (by omega)] at he
      unfold pv_6_compare_191
      intro _ _ y1 e1 _ _ n16 en16 _
      have e16 : n16 = w.2.1 51 (17 * c + 8) := by
        rw [en16, e1]
        show (if (17 * c + 8 : Int) = 17 * c + 3 then _ else w.2.1 51 (17 * c + 8)) = _
        rw [if_neg (by omega)]
      refine ⟨fun _ => ?_, fun z2 => by omega⟩
      unfold pv_6_compare_208
      intro _ _ _ y2 e2
      rw [e16] at e2
      exact h0 y1 y2 he e1 e2
    · rw [decide_eq_true (by omega)] at he
      unfold pv_6_compare_191
      intro _ _ y1 e1 _ _ n16 en16 _
      have e16 : n16 = w.2.1 51 (17 * c + 8) := by
        rw [en16, e1]
        show (if (17 * c + 8 : Int) = 17 * c + 3 then _ else w.2.1 51 (17 * c + 8)) = _
        rw [if_neg (by omega)]
      refine ⟨fun z2 => by omega, fun _ => ?_⟩
      unfold pv_6_compare_208
      intro _ _ _ y2 e2
      rw [e16] at e2
      exact h1 y1 y2 he e1 e2
  refine pv_6_compare_76_i (fun x1 x2 y => x1 = c ∧ y = w ∧ 0 ≤ x2 ∧ x2 ≤ w.2.1 54 1 ∧ x2 ≤ w.2.1 54 2 ∧ Ob.lowL A B' = Ob.lowL (A.drop x2.toNat) (B'.drop x2.toNat)) ?_ ⟨rfl, rfl, Int.le_refl _, l1, l2, rfl⟩
  rintro x1 x2 y ⟨b1, b2, i0, i1, i2, hi⟩
  rw [b1, b2]
  have gA : x2 < w.2.1 54 1 → A[x2.toNat]? = some (w.2.1 55 (2000 * 1 + x2)) := fun h => by
    have := LtC_get (th := 1) (u := w) (i := x2.toNat) (by omega)
    rw [hA, Int.toNat_of_nonneg i0] at this
    exact this
  have gB : x2 < w.2.1 54 2 → B'[x2.toNat]? = some (w.2.1 55 (2000 * 2 + x2)) := fun h => by
    have := LtC_get (th := 2) (u := w) (i := x2.toNat) (by omega)
    rw [hB, Int.toNat_of_nonneg i0] at this
    exact this
  have nA : w.2.1 54 1 ≤ x2 → A.drop x2.toNat = [] := fun h => List.drop_eq_nil_of_le (by omega)
  have nB : w.2.1 54 2 ≤ x2 → B'.drop x2.toNat = [] := fun h => List.drop_eq_nil_of_le (by omega)
  -- the letters differ, or one has ended
  have out : ¬ (x2 < w.2.1 54 1 ∧ x2 < w.2.1 54 2 ∧ w.2.1 55 (2000 * 1 + x2) = w.2.1 55 (2000 * 2 + x2)) → pv_6_compare_125 Q c x2 w := by
    intro hno
    unfold pv_6_compare_125
    intro n14 en14 _
    rw [en14]
    refine ⟨fun z => ?_, fun z => ?_⟩
    · rw [nA z] at hi
      unfold pv_6_compare_149
      intro n15 en15 _
      rw [en15]
      refine ⟨fun z2 => fin _ _ ?_, fun z2 => ?_⟩
      · rw [hi, nB z2]; rfl
      · intro _ _ n18 en18 r18
        refine fin _ _ ?_
        rw [hi, drop_lt (gB (by omega)), en18]
        have : (-1 : Int) < w.2.1 55 (2000 * 2 + x2) := by rw [← en18]; have := r18.1; omega
        rw [decide_eq_true this]; rfl
    · intro _ _ n19 en19 r19
      rw [drop_lt (gA (by omega))] at hi
      unfold pv_6_compare_149
      intro n15 en15 _
      rw [en15]
      refine ⟨fun z2 => fin _ _ ?_, fun z2 => ?_⟩
      · rw [hi, nB z2, lowL_nil_r]
        have := r19.1
        exact (decide_eq_false (by omega)).symm
      · intro _ _ n18 en18 r18
        refine fin _ _ ?_
        rw [hi, drop_lt (gB (by omega)), lowL_cons, if_neg (fun q => hno ⟨by omega, by omega, q⟩), en18, en19]
  unfold pv_6_compare_76b
  intro n13 en13 _
  rw [en13]
  refine ⟨fun z => out (fun q => by omega), fun z => ?_⟩
  intro n20 en20 _
  rw [en20]
  refine ⟨fun z2 => out (fun q => by omega), fun z2 => ?_⟩
  intro _ _ n21 en21 _ _ _ n22 en22 _
  rw [en21, en22]
  refine ⟨fun z3 => out (fun q => z3 q.2.2), fun z3 _ => ⟨rfl, rfl, by omega, by omega, by omega, ?_⟩⟩
  have z3 := Decidable.not_not.mp z3
  rw [hi, drop_lt (gA (by omega)), drop_lt (gB (by omega)), lowL_cons, if_pos z3, show (x2 + 1).toNat = x2.toNat + 1 by omega]
section
variable {α : Type} {u0 v0 v : iST} {E : Sp.Env} {B x g row c t T : Int} {R : EStateM.Result Unit Sp.Wk α} {Q : Int → iST → Prop} {K : Ob → Sp.M α} {d : Nat} {ctx : List Ob}
theorem f8L_J [DecidableEq Ob] : ∀ k, f8Jr k = false → f8L k = false := by
  intro k h
  have := f8Jr_of h
  unfold f8L
  exact decide_eq_false (by omega)
/-- a rule that turns variables round -/
theorem st_compare [DecidableEq Ob] {m : Int} {o : Ob} {n : Nat} {l : List (Ob × Ob)} {k : Sp.Thm} {Rl : Sp.Rul} (hM : FmJ u0 E B R Q d c x g row v0 T K) (hsk : SkJ u0 E B R Q d c v0 T K x g row ctx m o n) (hap : ApJ u0 E B R Q d c v0 T K x g row ctx m o n l Rl.rhs Rl.hyps 0) (hk : E.thms[n]? = some k) (hr : k.rule = some Rl) (ho : Ob.wt (Sp.arOf E) o) (hmt : Ob.mt Rl.lhs o = some l) (hS : StJ E c x g row ctx v0 v) (hs : v.2.1 51 (17 * c + 3) = 13) (h8 : v.2.1 51 (17 * c + 8) = (n : Int)) (h9 : v.2.1 51 (17 * c + 9) = 0) (h5 : v.2.1 51 (17 * c + 5) = m) (nm : NdC v E m) (em : oc v m = o)
    (hP : PdK B f8Jn f8Jr u0 v R (Sp.bd (Sp.fill (Ob.lkD l) Rl.rhs) (fun y => Sp.bd (if Ob.smaller y o then hypM E d ctx g o n l Rl.rhs Rl.hyps else Sp.rwRules E (Sp.rw E d ctx) o (decide (g = 1)) (E.thms.take n).reverse) (fun y => K (Sp.fin (decide (g = 1)) y))))) (ht : t + T + 3 ≤ 24 * (v.1 31 - u0.1 31)) : pv_6_rewritten_20 Q t v := by
  have hC := hM.1
  have T0 := hM.2.2.2.2.2.2
  have hT := hS.ct
  have hE := hC.env hP
  obtain ⟨r1, r2, r3, r4, r5, r6, r7⟩ := rule_at hE hk hr
  obtain ⟨n7, c7, n8', c9, v8, hh⟩ := r3.2.2 r2
  refine hd_13 hS.2.1.1 hM.2.2.2.2.1 hS.2.2.1 (hC.turn hP hS.2.2.1 (by omega)) hs ?_
  unfold pv_6_compare
  intro _ _ n1 en1 _
  rw [en1, h8]
  intro _ _ n2 en2 _ _ _ n3 en3 _
  rw [en2, en3, h5]
  have hmt' := hmt
  rw [r4] at hmt'
  refine pc_matches hT n7 nm (fun w gw hno => ?_) (fun w gw bw hv hag hbd => ?_)
  · exact absurd (by rw [em]; exact mt_sound n7.2.1 ho hmt') (hno (Ob.lkD l))
  unfold pv_9_clear
  intro y1 e1
  have g1 : CG f80 f8L w y1 := by rw [e1]; exact CG_A gw.1 (by omega) (by decide)
  have y1n : y1.1 = w.1 := by rw [e1]; rfl
  have y1r : ∀ k, k ≠ 54 → y1.2.1 k = w.2.1 k := fun k hk => by rw [e1]; exact if_neg hk
  have y154 : y1.2.1 54 1 = 0 := by rw [e1]; rfl
  have gv1 : CG f8Jn f8Jr v y1 := (gw.mono f8b_J f8m_J).tr (g1.mono f80_any f8L_J)
  intro _ _ n6 en6 _
  have w51 : w.2.1 51 = v.2.1 51 := gw.2.2.2 51 (by decide)
  rw [en6, y1r 51 (by decide), w51, h8]
  intro _ _ n7' en7' _
  rw [en7', y1r 8 (by decide), gw.2.2.2 8 (by decide)]
  have hP1 := hP.same gv1 (fun k h1 h2 => by rw [y1n]; exact gw.2.2.1 k (by unfold f8b; exact decide_eq_false (by omega)))
  obtain ⟨nrw, erw⟩ := n8'.up hT gv1
  rw [r5, ← erw] at hP1
  rw [em] at hag
  have b1 := bw.mono gw.1 g1 (by rw [y1n]) (y1r 35 (by decide)) (y1r 36 (by decide))
  have lw := bdL_w hv
  rw [← b1.2] at lw hag hbd
  rw [erw, ← r5] at hP1
  have mn : ∀ a : Ob, Mono (Sp.bd (if Ob.smaller a o then hypM E d ctx g o n l Rl.rhs Rl.hyps else Sp.rwRules E (Sp.rw E d ctx) o (decide (g = 1)) (E.thms.take n).reverse) (fun y => K (Sp.fin (decide (g = 1)) y))) := fun a => Mono.bd (Mono.ite hypM_mono (rwRules_mono (fun o t => rw_mono _ _ _ _) _)) (nf_mono hM.2.2.2.1 _)
  have hP1' : PdK B f8Jn f8Jr u0 y1 R (Sp.bd (Sp.fill (Ob.lkD l) (oc y1 (v.2.1 8 (n : Int)))) (fun y => Sp.bd (if Ob.smaller y o then hypM E d ctx g o n l Rl.rhs Rl.hyps else Sp.rwRules E (Sp.rw E d ctx) o (decide (g = 1)) (E.thms.take n).reverse) (fun y => K (Sp.fin (decide (g = 1)) y)))) := by rw [erw, ← r5]; exact hP1
  refine pc_fillJ hP1' hC.2.2.1 mn (hE.mono hT gv1) nrw b1.1 (fun y hy => mt_bind (E := E) n7.2.1 ho hmt' hag hbd y (v8 y (by rw [← erw]; exact hy))) lw (fun q y gy yd nt hPy _ => ?_)
  have gvy : CG f8Jn f8Jr v y := gv1.tr (gy.mono f8B_J f8W_J)
  have y54 : y.2.1 54 = y1.2.1 54 := gy.2.2.2 54 (by decide)
  -- both written
  have rest : ∀ z, CG f8Jn f8Jr y z → (z.2.1 51 = y.2.1 51 ∧ z.2.1 52 = y.2.1 52) → z.1 = y.1 → (0 ≤ z.2.1 54 1 ∧ z.2.1 54 1 ≤ slenI 1) → (y.1 32 = 0 → LtC 1 z = (Ob.told (oc y q)).take 200) → pv_9_clear 2 (fun u => bdp 5 17 (rd (u.2.1 51 (17 * c + 5)) (fun v11 => pv_9_write 2 v11 (fun u => pv_6_compare_76 (fun u => ovp (t + 1) (pv_6_rewritten_20 Q (t + 1) u)) c 0 u) u))) z := by
    intro z gz z5 zn z54 zl
    have z51 := z5.1
    unfold pv_9_clear
    intro z1 ez1
    have g2 : CG f80 f8L z z1 := by rw [ez1]; exact CG_A gz.1 (by omega) (by decide)
    have z1n : z1.1 = z.1 := by rw [ez1]; rfl
    have z1r : ∀ k, k ≠ 54 → z1.2.1 k = z.2.1 k := fun k hk => by rw [ez1]; exact if_neg hk
    have z154 : z1.2.1 54 2 = 0 := by rw [ez1]; rfl
    have z154' : z1.2.1 54 1 = z.2.1 54 1 := by rw [ez1]; rfl
    intro _ _ n11 en11 _
    have y51 : y.2.1 51 = v.2.1 51 := by rw [gy.2.2.2 51 (by decide), y1r 51 (by decide), w51]
    rw [en11, z1r 51 (by decide), z51, y51, h5]
    have gvz1 : CG f8Jn f8Jr v z1 := (gvy.tr gz).tr (g2.mono f80_any f8L_J)
    obtain ⟨nmz, emz⟩ := nm.up hT gvz1
    refine pc_write g2.1 ⟨by rw [z154]; decide, by rw [z154]; exact (slen_low 2).1 |> fun h => by omega⟩ nmz.1 (fun z2 tl2 => ?_)
    obtain ⟨t1, t2, t3, t4, t5, t6⟩ := tl2
    have z2n : ∀ k, z2.1 k = y.1 k := fun k => by rw [t1.2.2.1 k rfl, z1n, zn]
    have z251 : z2.2.1 51 = v.2.1 51 := by rw [t1.2.2.2 51 (by decide), z1r 51 (by decide), z51, y51]
    have z252 : z2.2.1 52 = v.2.1 52 := by rw [t1.2.2.2 52 (by decide), z1r 52 (by decide), z5.2, gy.2.2.2 52 (by decide), y1r 52 (by decide), gw.2.2.2 52 (by decide)]
    have gyz2 : CG f8Jn f8Jr y z2 := (gz.tr (g2.mono f80_any f8L_J)).tr (t1.mono f80_any f8L_J)
    have hP2 := hPy.same gyz2 (fun k _ _ => z2n k)
    have gvz2 : CG f8Jn f8Jr v z2 := gvy.tr gyz2
    have e1l : LtC 1 z2 = LtC 1 z := by
      have ez : z2.2.1 54 1 = z.2.1 54 1 := by rw [t5 1 (by decide), z154']
      unfold LtC
      rw [ez]
      refine List.map_congr_left (fun i hi => ?_)
      have hi := List.mem_range.mp hi
      have hz := z54.2
      have : slenI 1 = 200 := rfl
      rw [t6 _ (Or.inl (by omega)), z1r 55 (by decide)]
    have e2l : LtC 2 z2 = (Ob.told o).take 200 := by
      have hnil : LtC 2 z1 = [] := by unfold LtC; rw [z154]; rfl
      rw [t4, hnil, emz, em]
      rfl
    have z2kj : RjK (c + 1) v z2 := ⟨gvz2, fun j _ => by rw [z251], NtK.of (by rw [z2n, gy.2.2.1 26 (by decide), y1n, gw.2.2.1 26 (by decide)]) (by rw [z2n, gy.2.2.1 31 (by decide), y1n, gw.2.2.1 31 (by decide)]; exact Int.le_refl _) z252⟩
    have z223 : z2.1 23 = c + 1 := by rw [z2n, gy.2.2.1 23 (by decide), y1n, gw.2.2.1 23 (by decide)]; exact hS.2.1.1
    have z231 : z2.1 31 = v.1 31 := by rw [z2n, gy.2.2.1 31 (by decide), y1n, gw.2.2.1 31 (by decide)]
    have z232 : z2.1 32 = y.1 32 := z2n 32
    -- how the frame goes on
    have tail : ∀ st r : Int, ∀ w1 w2 : iST, w1 = iA z2 51 (17 * c + 3) st → w2 = iA w1 51 (17 * c + 8) r → (y.1 32 = 0 → StJ E c x g row ctx v0 w2 → w2.2.1 51 (17 * c + 3) = st → w2.2.1 51 (17 * c + 8) = r → w2.2.1 51 (17 * c + 9) = 0 → w2.2.1 51 (17 * c + 5) = m → NdC w2 E m → oc w2 m = o → w2.1 31 = v.1 31 → PdK B f8Jn f8Jr u0 w2 R (Sp.bd (if Ob.smaller (oc y q) o then hypM E d ctx g o n l Rl.rhs Rl.hyps else Sp.rwRules E (Sp.rw E d ctx) o (decide (g = 1)) (E.thms.take n).reverse) (fun y => K (Sp.fin (decide (g = 1)) y))) → pv_6_rewritten_20 Q (t + 1) w2) → pv_6_rewritten_20 Q (t + 1) w2 := by
      intro st r w1 w2 f1 f2 h
      obtain ⟨k1, m1, c1, q1r, s1, q1⟩ := fr_set gvz2.1 f1 (by decide)
      obtain ⟨k2, m2, c2, q2r, s2, q2⟩ := fr_set k1.1.1 f2 (by decide)
      have hPw := (hP2.same k1.1 (fun k _ _ => by rw [m1])).same k2.1 (fun k _ _ => by rw [m2])
      by_cases y32 : y.1 32 = 0
      · have hSz := hS.keep z2kj z223 (by rw [z232]; exact y32)
        obtain ⟨nm2, em2⟩ := nm.up hT ((gvz2.tr k1.1).tr k2.1)
        exact h y32 ((hSz.set f1 (by decide)).set f2 (by decide)) (by rw [s2 _ (by omega)]; exact q1) q2 (by rw [s2 _ (by omega), s1 _ (by omega), z251]; exact h9) (by rw [s2 _ (by omega), s1 _ (by omega), z251]; exact h5) nm2 (by rw [em2]; exact em) (by rw [m2, m1]; exact z231) hPw
      · exact rj_dead hC hPw (by rw [m2, m1, z232]; exact y32)
    have lowE : y.1 32 = 0 → Ob.lowL (LtC 1 z2) (LtC 2 z2) = Ob.smaller (oc y q) o := fun y32 => by rw [e1l, zl y32, e2l]; rfl
    refine pc_cmp rfl rfl (by rw [t5 1 (by decide), z154']; exact z54.1) t3.1 (fun w1 w2 hl f1 f2 _ => ?_) (fun w1 w2 hl f1 f2 _ => ?_)
    · refine tail _ _ w1 w2 f1 f2 (fun y32 hS2 a3 a8 a9 a5 nm2 em2 a31 hP3 => ?_)
      rw [← lowE y32, hl] at hP3
      rw [z251, h8] at a8
      exact hap (t + 1) w2 hS2 a3 (by rw [a8]; omega) a9 a5 nm2 em2 hP3 (by rw [a31]; omega)
    · refine tail _ _ w1 w2 f1 f2 (fun y32 hS2 a3 a8 a9 a5 nm2 em2 a31 hP3 => ?_)
      rw [← lowE y32, hl] at hP3
      rw [z251, h8] at a8
      exact hsk (t + 1) w2 hS2 a3 a8 a5 nm2 em2 hP3 (by rw [a31]; omega)
  have y541 : y.2.1 54 1 = 0 := by rw [y54]; exact y154
  refine pc_writeA gy.1 ⟨by rw [y541]; decide, by rw [y541]; decide⟩ ⟨nt.1, nt.2.1⟩ (fun q1 => ?_) (fun z vq tl => ?_)
  · refine rest y (CG.rf gy.1) ⟨rfl, rfl⟩ rfl ⟨by rw [y541]; decide, by rw [y541]; decide⟩ (fun y32 => ?_)
    have := (nt.2.2 y32).1.1
    omega
  · obtain ⟨t1, t2, t3, t4, t5, t6⟩ := tl
    refine rest z (t1.mono f80_any f8L_J) ⟨t1.2.2.2 51 (by decide), t1.2.2.2 52 (by decide)⟩ (funext (fun k => t1.2.2.1 k rfl)) t3 (fun _ => ?_)
    have hnil : LtC 1 y = [] := by unfold LtC; rw [y541]; rfl
    rw [t4, hnil]
    rfl
theorem ruleGoes_eq [DecidableEq Ob] {o : Ob} {n : Nat} {l : List (Ob × Ob)} {Rl : Sp.Rul} : Sp.ruleGoes E (Sp.rw E d ctx) o (decide (g = 1)) (E.thms.take n).reverse Rl l = if Rl.perm then Sp.bd (Sp.fill (Ob.lkD l) Rl.rhs) (fun y => if Ob.smaller y o then hypM E d ctx g o n l Rl.rhs Rl.hyps else Sp.rwRules E (Sp.rw E d ctx) o (decide (g = 1)) (E.thms.take n).reverse) else hypM E d ctx g o n l Rl.rhs Rl.hyps := by
  unfold Sp.ruleGoes hypM
  cases Rl.perm
  · rfl
  · show Sp.bd (Sp.bd (Sp.fill (Ob.lkD l) Rl.rhs) (fun y => Sp.ret (Ob.smaller y o))) _ = _
    rw [bd_assoc]
    rfl
/-- rules are sought -/
theorem st_seek [DecidableEq Ob] {m : Int} {o : Ob} (hM : FmJ u0 E B R Q d c x g row v0 T K) (hc : o.isCall = true) : ∀ n : Nat, n ≤ E.thms.length → SkJ u0 E B R Q d c v0 T K x g row ctx m o n := by
  intro n
  induction n using Nat.strongRecOn with
  | _ n ih =>
  intro hn t v hS hs h8 h5 nm em hP ht
  have hC := hM.1
  have T0 := hM.2.2.2.2.2.2
  have hT := hS.ct
  have ho : Ob.wt (Sp.arOf E) o := by rw [← em]; exact nm.2.1
  refine hd_12 hS.2.1.1 hM.2.2.2.2.1 hS.2.2.1 (hC.turn hP hS.2.2.1 (by omega)) hs ?_
  unfold pv_6_seek
  intro _ _ n1 en1 _
  rw [en1, h8]
  refine pv_6_seek_5_i (fun x1 x2 y => x1 = c ∧ ∃ j : Nat, x2 = (j : Int) - 1 ∧ j ≤ n ∧ RjK (c + 1) v y ∧ y.1 23 = c + 1 ∧ y.1 31 = v.1 31 ∧ PdK B f8Jn f8Jr u0 y R (Sp.bd (Sp.rwRules E (Sp.rw E d ctx) o (decide (g = 1)) (E.thms.take j).reverse) (fun y => K (Sp.fin (decide (g = 1)) y)))) ?_ ⟨rfl, n, rfl, Nat.le_refl n, RjK.rf hT, hS.2.1.1, rfl, hP⟩
  rintro x1 x2 y ⟨b1, j, b2, hj, kv, y23, y31, hPy⟩
  rw [b1]
  -- none is left, or it is over
  have out : (y.1 32 = 0 → j = 0) → pv_6_seek_104 (fun u => ovp (t + 1) (pv_6_rewritten_20 Q (t + 1) u)) c y := by
    intro h
    unfold pv_6_seek_104
    intro _ _ y1 e1 _
    obtain ⟨k1, m1, c1, q1r, s1, q1⟩ := fr_set kv.1.1 e1 (by decide)
    have hP1 := hPy.same k1.1 (fun k _ _ => by rw [m1])
    by_cases y32 : y.1 32 = 0
    · have hSy := hS.keep kv y23 y32
      obtain ⟨nm1, em1⟩ := nm.up hT (kv.1.tr k1.1)
      rw [h y32] at hP1
      refine st_unfold (t := t + 1) (m := m) hM (hSy.set e1 (by decide)) q1 (by rw [s1 _ (by omega), kv.2.1 _ (by omega)]; exact h5) nm1 (by rw [em1, em]; exact hc) (by rw [em1, em]; exact hP1) (by rw [m1, y31]; omega)
    · exact rj_dead hC hP1 (by rw [m1]; exact y32)
  unfold pv_6_seek_5b
  refine ⟨fun z => out (fun _ => by omega), fun z => ?_⟩
  intro n2 en2 _
  rw [en2]
  refine ⟨fun z2 => out (fun q => absurd q z2), fun z2 => ?_⟩
  have y32 := Decidable.not_not.mp z2
  have hSy := hS.keep kv y23 y32
  have hTy := hSy.ct
  have hEy := hC.env hPy
  obtain ⟨i, ei⟩ : ∃ i, j = i + 1 := ⟨j - 1, by omega⟩
  have ex : x2 = (i : Int) := by omega
  rw [ex]
  have hlt : i < E.thms.length := by omega
  have hk : E.thms[i]? = some E.thms[i] := List.getElem?_eq_getElem hlt
  rw [ei, take_rev _ _ _ hk] at hPy
  obtain ⟨nmy, emy⟩ := nm.up hT kv.1
  -- the next one
  have next : ∀ w, CG f8b f8m y w → (Sp.can E E.thms[i] (decide (g = 1)) = none ∨ ∃ Rl, Sp.can E E.thms[i] (decide (g = 1)) = some Rl ∧ Ob.mt Rl.lhs o = none) → (c = c ∧ ∃ j : Nat, (i : Int) + (-1) = (j : Int) - 1 ∧ j ≤ n ∧ RjK (c + 1) v w ∧ w.1 23 = c + 1 ∧ w.1 31 = v.1 31 ∧ PdK B f8Jn f8Jr u0 w R (Sp.bd (Sp.rwRules E (Sp.rw E d ctx) o (decide (g = 1)) (E.thms.take j).reverse) (fun y => K (Sp.fin (decide (g = 1)) y)))) := by
    intro w gw hsk
    rw [rr_skip hsk] at hPy
    exact ⟨rfl, i, by omega, by omega, kv.tr (RjK.of gw f8b_J f8m_J (by decide)) (Int.le_refl _), by rw [gw.2.2.1 23 (by decide)]; exact y23, by rw [gw.2.2.1 31 (by decide)]; exact y31, hPy.same (gw.mono f8b_J f8m_J) (fun k h1 h2 => gw.2.2.1 k (by unfold f8b; exact decide_eq_false (by omega)))⟩
  intro _ _ n3 en3 _
  rw [en3, hSy.2.1.2.2.1]
  refine pc_canLook hEy hk (fun hno => ⟨fun _ _ => next y (CG.rf hTy) (Or.inl hno), fun z => absurd rfl z⟩) (fun Rl hcan => ⟨(fun z => by cases z), fun _ => ?_⟩)
  have hr := can_rule hcan
  obtain ⟨r1, r2, r3, r4, r5, r6, r7⟩ := rule_at hEy hk hr
  obtain ⟨n7, c7, n8', c9, v8, hh⟩ := r3.2.2 r2
  intro _ _ n6 en6 _ _ _ n7' en7' _
  rw [en6, en7', kv.2.1 _ (by omega), h5]
  refine pc_matches hTy n7 nmy (fun w gw hno => ⟨fun _ _ => next w gw (Or.inr ⟨Rl, hcan, ?_⟩), fun z => absurd rfl z⟩) (fun w gw bw hv hag hbd => ⟨(fun z => by cases z), fun _ => ?_⟩)
  · refine (mt_iff (ar := Sp.arOf E) (by rw [r4]; exact n7.2.1) ho).1.mpr (fun s => ?_)
    rw [r4, ← em, ← emy]
    exact hno s
  -- it matches
  obtain ⟨l, hmt⟩ : ∃ l, Ob.mt Rl.lhs o = some l := by
    cases q : Ob.mt Rl.lhs o with
    | some l => exact ⟨l, rfl⟩
    | none =>
      have := (mt_iff (ar := Sp.arOf E) (by rw [r4]; exact n7.2.1) ho).1.mp q (Ob.lkD (bdL w))
      rw [r4, ← em, ← emy] at this
      exact absurd ((hag _).mpr (Ag_lkD _)) this
  rw [rr_go hcan hmt, bd_assoc] at hPy
  have hPw := hPy.same (gw.mono f8b_J f8m_J) (fun k h1 h2 => gw.2.2.1 k (by unfold f8b; exact decide_eq_false (by omega)))
  have w32 : w.1 32 = 0 := by rw [gw.2.2.1 32 (by decide)]; exact y32
  have kw : RjK (c + 1) v w := kv.tr (RjK.of gw f8b_J f8m_J (by decide)) (Int.le_refl _)
  have w23 : w.1 23 = c + 1 := by rw [gw.2.2.1 23 (by decide)]; exact y23
  have w31 : w.1 31 = v.1 31 := by rw [gw.2.2.1 31 (by decide)]; exact y31
  obtain ⟨s, hl, eR⟩ := hPw.live w32
  refine pc_stepS gw.1 hl.2.1 (fun z gz z32 s0 htick hst zs => ⟨(fun z => by cases z), fun _ => ?_⟩) (fun z gz z32 s0 htick hst zs => ⟨fun _ _ => ?_, fun z => absurd rfl z⟩)
  rotate_left
  · have kz : RjK (c + 1) w z := RjK.of31 gz f8S_J f80_any (by decide) (by omega)
    refine ⟨rfl, i, by omega, by omega, kw.tr kz (Int.le_refl _), by rw [gz.2.2.1 23 (by decide)]; exact w23, by rw [zs]; exact w31, hPw.1.tr (gz.mono f8S_J f80_any), Or.inr ⟨s, ⟨z32, hst⟩, by rw [eR]; exact bind_err htick⟩⟩
  have eR2 : R = Sp.bd (Sp.ruleGoes E (Sp.rw E d ctx) o (decide (g = 1)) (E.thms.take i).reverse Rl l) (fun y => K (Sp.fin (decide (g = 1)) y)) (s.1 - 1, s.2) := by rw [eR]; exact bind_ok htick
  have kz : RjK (c + 1) w z := RjK.of31 gz f8S_J f80_any (by decide) (by omega)
  have z31 : z.1 31 = v.1 31 + 1 := by rw [zs, w31]
  have hPz : PdK B f8Jn f8Jr u0 z R (Sp.bd (Sp.ruleGoes E (Sp.rw E d ctx) o (decide (g = 1)) (E.thms.take i).reverse Rl l) (fun y => K (Sp.fin (decide (g = 1)) y))) := ⟨hPw.1.tr (gz.mono f8S_J f80_any), Or.inl ⟨(s.1 - 1, s.2), ⟨by rw [z32]; exact w32, hst, by rw [gz.2.2.1 29 (by decide)]; exact hl.2.2⟩, eR2⟩⟩
  have hSz := hS.keep (kw.tr kz (Int.le_refl _)) (by rw [gz.2.2.1 23 (by decide)]; exact w23) (by rw [z32]; exact w32)
  intro _ _ y1 e1 _ _ y2 e2 _ _ n12 en12 _
  obtain ⟨k1, m1, c1, q1r, s1, q1⟩ := fr_set gz.1 e1 (by decide)
  obtain ⟨k2, m2, c2, q2r, s2, q2⟩ := fr_set k1.1.1 e2 (by decide)
  have gy2 : CG f8Jn f8Jr y y2 := (((gw.mono f8b_J f8m_J).tr (gz.mono f8S_J f80_any)).tr k1.1).tr k2.1
  have y211 : y2.2.1 11 = y.2.1 11 := gy2.2.2.2 11 (by decide)
  rw [ruleGoes_eq, r7] at hPz
  rw [en12, y211]
  have hskI := ih i (by omega) (by omega)
  have hap := st_apply (m := m) hM hskI hk hr ho hmt Rl.hyps.length 0 (by omega)
  -- the stage is set
  have set3 : ∀ st : Int, ∀ y3 : iST, y3 = iA y2 51 (17 * c + 3) st → StJ E c x g row ctx v0 y3 ∧ y3.2.1 51 (17 * c + 3) = st ∧ y3.2.1 51 (17 * c + 8) = (i : Int) ∧ y3.2.1 51 (17 * c + 9) = 0 ∧ y3.2.1 51 (17 * c + 5) = m ∧ NdC y3 E m ∧ oc y3 m = o ∧ y3.1 31 = v.1 31 + 1 ∧ ∀ {M : Sp.M α}, PdK B f8Jn f8Jr u0 z R M → PdK B f8Jn f8Jr u0 y3 R M := by
    intro st y3 e3
    obtain ⟨k3, m3, c3, q3r, s3, q3⟩ := fr_set k2.1.1 e3 (by decide)
    obtain ⟨nm3, em3⟩ := nmy.up hTy (gy2.tr k3.1)
    refine ⟨((hSz.set e1 (by decide)).set e2 (by decide)).set e3 (by decide), q3, by rw [s3 _ (by omega), s2 _ (by omega)]; exact q1, by rw [s3 _ (by omega)]; exact q2, ?_, nm3, by rw [em3, emy]; exact em, by rw [m3, m2, m1]; exact z31, fun {M} h => ((h.same k1.1 (fun k _ _ => by rw [m1])).same k2.1 (fun k _ _ => by rw [m2])).same k3.1 (fun k _ _ => by rw [m3])⟩
    rw [s3 _ (by omega), s2 _ (by omega), s1 _ (by omega), kz.2.1 _ (by omega), kw.2.1 _ (by omega)]
    exact h5
  refine ⟨fun z3 => ?_, fun z3 => ?_⟩
  · rw [decide_eq_false (not_not_intro z3), if_neg (by decide)] at hPz
    unfold pv_6_seek_96
    intro _ _ y3 e3 _
    obtain ⟨a1, a2, a3, a4, a5, a6, a7, a8, a9⟩ := set3 14 y3 e3
    exact hap (t + 1) y3 a1 a2 a3 a4 a5 a6 a7 (by rw [List.drop_zero]; exact a9 hPz) (by rw [a8]; omega)
  · rw [decide_eq_true z3, if_pos rfl, bd_assoc] at hPz
    unfold pv_6_seek_96
    intro _ _ y3 e3 _
    obtain ⟨a1, a2, a3, a4, a5, a6, a7, a8, a9⟩ := set3 13 y3 e3
    exact st_compare (t := t + 1) (m := m) hM hskI hap hk hr ho hmt a1 a2 a3 a4 a5 a6 a7 (a9 hPz) (by rw [a8]; omega)
/-- U is looked up, then rules are sought -/
theorem st_look [DecidableEq Ob] {m : Int} (hM : FmJ u0 E B R Q d c x g row v0 T K) (hS : StJ E c x g row ctx v0 v) (hs : v.2.1 51 (17 * c + 3) = 11) (h5 : v.2.1 51 (17 * c + 5) = m) (nm : NdC v E m) (hc : (oc v m).isCall = true) (hP : PdK B f8Jn f8Jr u0 v R (Sp.bd (if Sp.look ctx (oc v m) (decide (g = 1)) = oc v m then Sp.rwRules E (Sp.rw E d ctx) (oc v m) (decide (g = 1)) E.thms.reverse else Sp.ret (Sp.look ctx (oc v m) (decide (g = 1)))) (fun y => K (Sp.fin (decide (g = 1)) y)))) (ht : t + T + 3 ≤ 24 * (v.1 31 - u0.1 31)) : pv_6_rewritten_20 Q t v := by
  have hC := hM.1
  have T0 := hM.2.2.2.2.2.2
  have hT := hS.ct
  have hE := hC.env hP
  refine hd_11 hS.2.1.1 hM.2.2.2.2.1 hS.2.2.1 (hC.turn hP hS.2.2.1 (by omega)) hs ?_
  unfold pv_6_lookUp
  intro _ _ n1 en1 _ _ _ n2 en2 _ _ _ n3 en3 _
  rw [en1, h5, en2, hS.2.1.2.2.1, en3, hS.2.1.2.2.2.1]
  refine pc_lookedUp hT nm hS.2.2.2.2.1 (fun r nr er => ?_)
  intro _ _ n5 en5 _
  rw [en5, h5]
  have i1 := hT.1.inj nr.1.1 nr.1.2 nm.1.1 nm.1.2
  refine ⟨fun z => ?_, fun z => ?_⟩
  rotate_left
  · rw [if_neg (fun q => z (i1.mp (er.trans q))), ← er] at hP
    exact fr_fin (t := t + 1) hM hS.1 hS.2.1 nr.d hP.retd (by omega) (fun w h _ => h)
  rw [if_pos (er.symm.trans (i1.mpr z))] at hP
  intro _ _ y1 e1 n6 en6 _ _ _ _ y2 e2 _
  obtain ⟨k1, m1, c1, q1r, s1, q1⟩ := fr_set hT e1 (by decide)
  obtain ⟨k2, m2, c2, q2r, s2, q2⟩ := fr_set k1.1.1 e2 (by decide)
  obtain ⟨nm2, em2⟩ := nm.up hT (k1.1.tr k2.1)
  have h25 : n6 = (E.thms.length : Int) := by rw [en6, m1, hE.2.2.2.2.1]; exact hE.2.2.2.1.1.symm
  refine st_seek (m := m) hM hc E.thms.length (Nat.le_refl _) (t + 1) y2 ((hS.set e1 (by decide)).set e2 (by decide)) (by rw [s2 _ (by omega)]; exact q1) (by rw [q2, h25]) (by rw [s2 _ (by omega), s1 _ (by omega)]; exact h5) nm2 em2 ?_ (by rw [m2, m1]; omega)
  rw [List.take_length]
  exact (hP.same k1.1 (fun k _ _ => by rw [m1])).same k2.1 (fun k _ _ => by rw [m2])
end
