-- deps: 7586
/-! the class: a ROUND from the notes, of what is there -/
theorem pc_roundX [DecidableEq Ob] {c wc lf : Int} {rd : Nat} {Q : iST → Prop} {v : iST} {E : Sp.Env} {tr tr2 : TrL} {o : Sp.Out} (hT : CT v) (hC : ClW v E c) (h48 : v.2.1 48 c = (rd : Int)) (h32 : v.1 32 = 0) (h16 : v.1 16 ≠ 0) (h14 : v.1 14 = wc) (hcw : c + 1 = 120 + wc) (w10 : 1 ≤ wc ∧ wc < 10) (h15 : v.1 15 = lf) (l20 : 0 ≤ lf ∧ lf < 20) (hR : RdT (ExT v) rd 31 [] (clC v c) false tr o) (hN : NtL E v (v.1 28) (tr ++ tr2) (v.1 26)) (hno : ∀ d, o ≠ some (.inr (.inl d)))
    (hq : ∀ w, CG f8Zp f8Pr v w → w.1 32 = 0 → RdO E c wc lf rd v w o → NtL E w (w.1 28) tr2 (w.1 26) → w.1 26 = v.1 26 → w.2.1 52 = v.2.1 52 → w.1 29 = v.1 29 → Q w) : pv_4_makeRound c Q v := by
  unfold pv_4_makeRound
  intro n1 en1 _ _ y0 e0
  rw [en1, h48] at e0
  have k0 : CkC c v y0 := by rw [e0]; exact CkC_A hT (by decide) (by decide)
  have y0r : ∀ k, k ≠ 48 → y0.2.1 k = v.2.1 k := fun k hk => by rw [e0, iAc_ne _ _ _ hk]
  have y0n : y0.1 = v.1 := by rw [e0]; rfl
  have y048 : y0.2.1 48 c = (rd : Int) + 1 := by rw [e0, iAc_at]
  have g0 : CG f8Zp f8Pr v y0 := k0.1.mono f80_Zp f8C_P
  have el0 : clC y0 c = clC v c := by
    unfold clC lsC
    rw [y0r 46 (by decide), y0r 49 (by decide)]
    exact List.map_congr_left (fun i _ => oc_same k0.2.1 _)
  have hC0 : ClW y0 E c := by
    refine ⟨by rw [y0r 46 (by decide)]; exact hC.1, fun i i0 i1 => ?_, by rw [el0]; exact hC.2.2.1, by rw [y0r 47 (by decide), el0]; exact hC.2.2.2⟩
    rw [y0r 46 (by decide)] at i1
    rw [y0r 49 (by decide)]
    exact ((hC.2.1 i i0 i1).up hT k0.1).1
  have hN0 : NtL E y0 (y0.1 28) (tr ++ tr2) (y0.1 26) := by
    rw [y0n]
    exact NtL.keep hT g0 _ _ _ hN (fun i _ => by rw [y0r 52 (by decide)])
  have hl := hC.1
  have hlen := clC_len v c
  refine pv_4_makeRound_17_i (fun x1 x2 x3 x4 y => x1 = c ∧ ∃ (n : Nat) (pre post : List Ob) (ch : Bool) (tr : TrL), x3 = (pre.length : Int) ∧ bq x2 ch ∧ 0 ≤ x4 ∧ x4 + (post.length : Int) ≤ 30 ∧ CG f8Zp f8Pr v y ∧ OtC (fun j => j ≠ c) v y ∧ (y.1 14 = wc ∧ y.1 15 = lf ∧ y.1 32 = 0 ∧ y.1 26 = v.1 26 ∧ y.2.1 52 = v.2.1 52 ∧ y.1 29 = v.1 29) ∧ ClW y E c ∧ clC y c = pre ++ post ∧ y.2.1 48 c = (rd : Int) + 1 ∧ RdT (ExT v) rd n pre post ch tr o ∧ NtL E y (y.1 28) (tr ++ tr2) (y.1 26)) ?_ ⟨rfl, 31, [], clC v c, false, tr, rfl, ⟨fun _ => rfl, fun _ => rfl⟩, Int.le_refl _, by omega, g0, k0.ot (fun j hj => hj), ⟨by rw [y0n]; exact h14, by rw [y0n]; exact h15, by rw [y0n]; exact h32, by rw [y0n], y0r 52 (by decide), by rw [y0n]⟩, hC0, el0, y048, hR, hN0⟩
  rintro x1 x2 x3 x4 y ⟨b1, n, pre, post, ch, tr, b3, hch, i0, i1, gy, oty, ⟨y14, y15, y32, y26, y52, y29⟩, hCy, ely, y48, hRy, hNy⟩
  rw [b1]
  have hTy := gy.1
  have hly := hCy.1
  have hleny := clC_len y c
  rw [ely, List.length_append] at hleny
  -- the end of a ROUND
  have out : post = [] → pv_4_makeRound_250 Q c x2 y := by
    intro hp
    rw [hp, RdT_nil] at hRy
    rw [hp, List.append_nil] at ely
    obtain ⟨r1, r2, r3⟩ := hRy
    rw [r1] at hNy
    have hNy : NtL E y (y.1 28) tr2 (y.1 26) := hNy
    unfold pv_4_makeRound_250
    refine ⟨fun z => ?_, fun z => ?_⟩
    · rw [hch.t z] at r2 r3
      unfold pv_1_isTooBig
      intro n1' en1' _
      rw [en1', hCy.2.2.2, ely]
      have r2 := r2 rfl
      have r3 : o = some (.inr (.inr (pre, rd + 1))) := r3
      refine ⟨fun z2 _ => ⟨fun _ => ?_, fun q => absurd rfl q⟩, fun z2 _ => by omega⟩
      refine hq y gy y32 ?_ hNy y26 y52 y29
      rw [r3]
      exact ⟨oty, y14, y15, ⟨hCy, ely, by rw [y48]; show _ = ((rd + 1 : Nat) : Int); omega⟩, rfl⟩
    · rw [hch.f (Decidable.not_not.mp z)] at r3
      exact absurd r3 (hno (pre, rd + 1))
  unfold pv_4_makeRound_17b
  refine ⟨fun z => by omega, fun _ => ?_⟩
  intro n6 en6 _
  rw [en6, b3]
  refine ⟨fun z => out (List.eq_nil_of_length_eq_zero (by omega)), fun z => ?_⟩
  obtain ⟨x, post', ep⟩ : ∃ x l, post = x :: l := by
    cases post with
    | nil => simp at hleny; omega
    | cons a l => exact ⟨a, l, rfl⟩
  rw [ep] at i1 ely hleny hRy
  obtain ⟨n', en'⟩ : ∃ m, n = m + 1 := by
    cases n with
    | zero => exact absurd hRy (fun h => h)
    | succ m => exact ⟨m, rfl⟩
  rw [en'] at hRy
  obtain ⟨ctx, va, tr', etr, hvl, hRv⟩ := hRy
  rw [etr] at hNy
  have hNy : NtL E y (y.1 28) ((ctx, x, va) :: (tr' ++ tr2)) (y.1 26) := hNy
  have i1 : x4 + ((post'.length + 1 : Nat) : Int) ≤ 30 := i1
  have hleny : pre.length + (post'.length + 1) = (y.2.1 46 c).toNat := hleny
  intro _ _ n7 en7 _
  have nd := hCy.2.1 (pre.length : Int) (by omega) (by omega)
  rw [← en7] at nd
  have hget := clC_get (u := y) (c := c) (i := pre.length) (by omega)
  rw [ely, List.getElem?_append_right (Nat.le_refl _), Nat.sub_self, ← en7] at hget
  have ex : x = oc y n7 := Option.some.inj hget
  have htk : (clC y c).take pre.length = pre := by rw [ely, List.take_append_of_le_length (Nat.le_refl _), List.take_length]
  have hdp : (clC y c).drop (pre.length + 1) = post' := by
    rw [ely, ← List.drop_drop, List.drop_append_of_le_length (Nat.le_refl _), List.drop_length]
    rfl
  refine pc_rowX (p := pre.length) hTy hCy y32 (by rw [htk, hdp]; exact hvl) ⟨_, hNy.2.2.2.1.1, hNy.2.2.2.1.2.1⟩ (fun row cx => ?_)
  obtain ⟨w, ew⟩ : ∃ w, w = y := ⟨y, rfl⟩
  have gw : CG f8B f8W y w := by rw [ew]; exact CG.rf hTy
  rw [← ew]
  rw [← ew] at cx
  have gvw : CG f8Zp f8Pr v w := gy.tr (gw.mono f8B_Zp f8W_P)
  have w15 : w.1 15 = lf := by rw [ew]; exact y15
  have w32 : w.1 32 = 0 := by rw [ew]; exact y32
  intro n9 en9 _
  rw [en9]
  refine ⟨fun q => absurd w32 q, fun _ => ?_⟩
  intro n23 en23 _
  rw [en23, gvw.2.2.1 16 (by decide)]
  refine ⟨fun q => absurd q h16, fun _ => ?_⟩
  obtain ⟨ndw, edw⟩ := nd.up hTy gw
  have otw : OtC (fun j => j ≠ c) v w := oty.tr (OtC.of (f8B_rows gw))
  have w14 : w.1 14 = wc := by rw [gw.2.2.1 14 (by decide)]; exact y14
  have w48 : w.2.1 48 c = (rd : Int) + 1 := by rw [f8B_rows gw 48 (by decide) (by decide)]; exact y48
  have w26 : w.1 26 = y.1 26 := gw.2.2.1 26 (by decide)
  have w52 : w.2.1 52 = y.2.1 52 := gw.2.2.2 52 (by decide)
  obtain ⟨hCw, elw⟩ := hCy.up hTy gw (f8B_rows gw)
  have hNw : NtL E w (w.1 28) ((ctx, x, va) :: (tr' ++ tr2)) (w.1 26) := by
    rw [gw.2.2.1 28 (by decide), w26]
    exact NtL.keep hTy gw _ _ _ hNy (fun i _ => by rw [w52])
  refine pc_recalledZ gw.1 hNw (Int.le_refl _) ndw.1 (by rw [edw]; exact ex.symm) cx (fun a z gz na eva hNz zn z2 => ?_)
  -- it came out as a
  have hTz := gz.1
  have gvz : CG f8Zp f8Pr v z := gvw.tr (gz.mono f828_Zp f80_any)
  have otz : OtC (fun j => j ≠ c) v z := otw.tr (OtC.of (fun k _ _ => by rw [z2]))
  have z14 : z.1 14 = wc := by rw [zn 14 (by decide)]; exact w14
  have z15 : z.1 15 = lf := by rw [zn 15 (by decide)]; exact w15
  have z32 : z.1 32 = 0 := by rw [zn 32 (by decide)]; exact w32
  have z29 : z.1 29 = v.1 29 := by rw [zn 29 (by decide), ew]; exact y29
  have z26 : z.1 26 = v.1 26 := by rw [zn 26 (by decide), w26]; exact y26
  have z52 : z.2.1 52 = v.2.1 52 := by rw [z2, w52]; exact y52
  rw [← zn 26 (by decide)] at hNz
  obtain ⟨hCz, elz⟩ := hCw.up gw.1 gz (fun k _ _ => by rw [z2])
  have z48 : z.2.1 48 c = (rd : Int) + 1 := by rw [z2]; exact w48
  have elz : clC z c = pre ++ x :: post' := by rw [elz, elw]; exact ely
  obtain ⟨ndz, edz⟩ := ndw.up gw.1 gz
  rw [edw, ← ex] at edz
  have eva : oc z a = va := eva
  rw [← eva] at hRv
  have a0 := na.1.1
  have k1 := katC hTz 1 (o := Ob.t) (by decide) (by decide) rfl na.1.1 na.1.2
  have k0' := oc_nil hTz na.1
  have isame := hTz.1.inj na.1.1 na.1.2 ndz.1.1 ndz.1.2
  rw [edz] at isame
  have htkz : (clC z c).take pre.length = pre := by rw [elz, List.take_append_of_le_length (Nat.le_refl _), List.take_length]
  have hdpz : (clC z c).drop (pre.length + 1) = post' := by
    rw [elz, ← List.drop_drop, List.drop_append_of_le_length (Nat.le_refl _), List.drop_length]
    rfl
  have z46 : (pre.length : Int) < z.2.1 46 c := by
    have h1 := clC_len z c
    rw [elz, List.length_append] at h1
    have h1 : pre.length + (post'.length + 1) = (z.2.1 46 c).toNat := h1
    omega
  unfold pv_4_makeRound_95 pv_4_makeRound_97
  refine ⟨fun _ => ?_, fun q => by omega⟩
  refine ⟨fun nt => ?_, fun yt => ?_⟩
  rotate_left
  · rw [if_pos (k1.mp (Decidable.not_not.mp yt))] at hRv
    obtain ⟨q1, q2⟩ := hRv
    rw [q1] at hNz
    have hNz : NtL E z (z.1 28) tr2 (z.1 26) := hNz
    intro n20 en20 _ _ y2 e2
    have g2 : CG f8Zp f8Pr z y2 := by rw [e2]; exact CG_I hTz (by decide) (by decide)
    have y2n : ∀ k, k ≠ 14 → y2.1 k = z.1 k := fun k hk => by rw [e2]; exact if_neg hk
    have y2r : y2.2 = z.2 := by rw [e2]; rfl
    refine hq y2 (gvz.tr g2) (by rw [y2n 32 (by decide)]; exact z32) ?_ ?_ (by rw [y2n 26 (by decide)]; exact z26) (by rw [y2r]; exact z52) (by rw [y2n 29 (by decide)]; exact z29)
    · rw [q2]
      exact ⟨otz.tr (OtC.of (fun k _ _ => by rw [y2r])), by rw [e2]; show n20 - 1 = _; rw [en20, z14], by rw [y2n 15 (by decide)]; exact z15⟩
    · rw [y2n 28 (by decide), y2n 26 (by decide)]
      exact NtL.keep hTz g2 _ _ _ hNz (fun i _ => by rw [y2r])
  rw [if_neg (fun q => nt (k1.mpr q))] at hRv
  -- a split
  have spl : Sp.splits (oc z a) = true → pv_4_makeRound_177 Q c (pre.length : Int) a z := by
    intro hsp
    rw [if_pos hsp] at hRv
    obtain ⟨q1, q2, q3⟩ := hRv
    rw [q1] at hNz
    have hNz : NtL E z (z.1 28) tr2 (z.1 26) := hNz
    unfold pv_4_makeRound_177
    refine pc_splitX (rd := rd) (p := pre.length) hTz hCz z46 na hsp z32 z14 hcw w10 z48 (o := o) (by rw [htkz, hdpz]; exact q2) (q3.mono (fun o ho => ho.up hT gvz)) (fun w' a1 b1' ot1 g1 q32 q14 kp hA hB hsv q29 => ?_)
    rw [htkz, hdpz] at hsv
    have eo := hsv.det q2
    refine hq w' (gvz.tr (g1.mono f8Pn_Zp (fun _ h => h))) q32 ?_ ?_ (by rw [kp.2.2.2.1]; exact z26) (by rw [kp.2.2.2.2.2]; exact z52) (by rw [q29]; exact z29)
    · rw [← eo]
      exact ⟨(otz.sub (fun j hj => hj.1)).tr ot1, q14, by rw [kp.1]; exact z15, ⟨hA.1, hA.2.1, by rw [hA.2.2]; show _ = ((rd + 1 : Nat) : Int); omega⟩, ⟨hB.1, hB.2.1, by rw [hB.2.2]; show _ = ((rd + 1 : Nat) : Int); omega⟩, rfl, rfl⟩
    · rw [kp.2.2.2.2.1, kp.2.2.2.1]
      exact NtL.keep hTz g1 _ _ _ hNz (fun i _ => by rw [kp.2.2.2.2.2])
  -- none
  have nospl : Sp.splits (oc z a) = false → pv_4_makeRound_186 (fun x1 x2 x3 x4 y => x1 = c ∧ ∃ (n : Nat) (pre post : List Ob) (ch : Bool) (tr : TrL), x3 = (pre.length : Int) ∧ bq x2 ch ∧ 0 ≤ x4 ∧ x4 + (post.length : Int) ≤ 30 ∧ CG f8Zp f8Pr v y ∧ OtC (fun j => j ≠ c) v y ∧ (y.1 14 = wc ∧ y.1 15 = lf ∧ y.1 32 = 0 ∧ y.1 26 = v.1 26 ∧ y.2.1 52 = v.2.1 52 ∧ y.1 29 = v.1 29) ∧ ClW y E c ∧ clC y c = pre ++ post ∧ y.2.1 48 c = (rd : Int) + 1 ∧ RdT (ExT v) rd n pre post ch tr o ∧ NtL E y (y.1 28) (tr ++ tr2) (y.1 26)) Q c x2 (pre.length : Int) x4 n7 a z := by
    intro hns
    rw [if_neg (by rw [hns]; decide)] at hRv
    -- it changed
    have chg : ¬ (oc z a = x ∧ oc z a ≠ Ob.nil) → pv_4_makeRound_214 (fun x1 x2 x3 x4 y => x1 = c ∧ ∃ (n : Nat) (pre post : List Ob) (ch : Bool) (tr : TrL), x3 = (pre.length : Int) ∧ bq x2 ch ∧ 0 ≤ x4 ∧ x4 + (post.length : Int) ≤ 30 ∧ CG f8Zp f8Pr v y ∧ OtC (fun j => j ≠ c) v y ∧ (y.1 14 = wc ∧ y.1 15 = lf ∧ y.1 32 = 0 ∧ y.1 26 = v.1 26 ∧ y.2.1 52 = v.2.1 52 ∧ y.1 29 = v.1 29) ∧ ClW y E c ∧ clC y c = pre ++ post ∧ y.2.1 48 c = (rd : Int) + 1 ∧ RdT (ExT v) rd n pre post ch tr o ∧ NtL E y (y.1 28) (tr ++ tr2) (y.1 26)) Q c (pre.length : Int) x4 a 0 z := by
      intro hno'
      unfold pv_4_makeRound_214 pv_4_makeRound_219
      refine ⟨fun q => absurd rfl q, fun _ => ?_⟩
      have nq : ∀ {q : iST}, CkC c z q → q.1 = z.1 → NtL E q (q.1 28) (tr' ++ tr2) (q.1 26) := fun {q} kq qn => by
        rw [qn]
        exact NtL.keep hTz kq.1 _ _ _ hNz (fun i _ => by rw [kq.1.2.2.2 52 (by decide)])
      refine pc_stands hTz hCz (by omega) z46 na (fun q hor kq qn q48 hCq eq => ⟨fun _ _ _ => ?_, fun h => absurd rfl h⟩) (fun q hnn hnp kq qn q48 hCq eq => ⟨(fun h => by cases h), fun _ => ?_⟩)
      · rw [Int.toNat_natCast] at hor eq
        rw [htkz] at hor eq
        rw [hdpz] at eq
        refine ⟨rfl, n', pre, post', true, tr', by omega, ⟨(fun h => by cases h), (fun h => by cases h)⟩, by omega, by omega, gvz.tr (kq.1.mono f80_Zp f8C_P), otz.tr (kq.ot (fun j hj => hj)), ⟨by rw [qn]; exact z14, by rw [qn]; exact z15, by rw [qn]; exact z32, by rw [qn]; exact z26, by rw [kq.1.2.2.2 52 (by decide)]; exact z52, by rw [qn]; exact z29⟩, hCq, eq, by rw [q48]; exact z48, ?_, nq kq qn⟩
        by_cases cn : oc z a = Ob.nil
        · rw [if_pos cn] at hRv; exact hRv
        · rw [if_neg cn, if_neg (fun h => hno' ⟨h, cn⟩), if_pos (Ob.has_iff.mpr (hor.resolve_left cn))] at hRv
          exact hRv
      · rw [Int.toNat_natCast] at hnp eq
        rw [htkz] at hnp eq
        rw [hdpz] at eq
        unfold pv_4_makeRound_237
        intro _ _
        have hfl := List.length_filter_le (fun y => decide (y ≠ oc z a)) post'
        refine ⟨rfl, n', pre ++ [oc z a], post'.filter (fun y => decide (y ≠ oc z a)), true, tr', by rw [List.length_append]; show _ = ((pre.length + 1 : Nat) : Int); omega, ⟨(fun h => by cases h), (fun h => by cases h)⟩, by omega, by omega, gvz.tr (kq.1.mono f80_Zp f8C_P), otz.tr (kq.ot (fun j hj => hj)), ⟨by rw [qn]; exact z14, by rw [qn]; exact z15, by rw [qn]; exact z32, by rw [qn]; exact z26, by rw [kq.1.2.2.2 52 (by decide)]; exact z52, by rw [qn]; exact z29⟩, hCq, by rw [eq, List.append_assoc]; rfl, by rw [q48]; exact z48, ?_, nq kq qn⟩
        rw [if_neg hnn, if_neg (fun h => hno' ⟨h, hnn⟩), if_neg (fun h => hnp (Ob.has_iff.mp h))] at hRv
        exact hRv
    have diff : ¬ (oc z a = x ∧ oc z a ≠ Ob.nil) → pv_4_makeRound_202 (fun x1 x2 x3 x4 y => x1 = c ∧ ∃ (n : Nat) (pre post : List Ob) (ch : Bool) (tr : TrL), x3 = (pre.length : Int) ∧ bq x2 ch ∧ 0 ≤ x4 ∧ x4 + (post.length : Int) ≤ 30 ∧ CG f8Zp f8Pr v y ∧ OtC (fun j => j ≠ c) v y ∧ (y.1 14 = wc ∧ y.1 15 = lf ∧ y.1 32 = 0 ∧ y.1 26 = v.1 26 ∧ y.2.1 52 = v.2.1 52 ∧ y.1 29 = v.1 29) ∧ ClW y E c ∧ clC y c = pre ++ post ∧ y.2.1 48 c = (rd : Int) + 1 ∧ RdT (ExT v) rd n pre post ch tr o ∧ NtL E y (y.1 28) (tr ++ tr2) (y.1 26)) Q c x2 (pre.length : Int) x4 a z := by
      intro hno'
      unfold pv_4_makeRound_202 pv_4_makeRound_203
      exact ⟨fun _ => chg hno', fun _ => ⟨fun q => absurd rfl q, fun _ => chg hno'⟩⟩
    unfold pv_4_makeRound_186
    refine ⟨fun q => diff (fun h => q (isame.mp h.1)), fun q => ⟨fun q2 => diff (fun h => h.2 (k0'.mp q2)), fun q2 => ?_⟩⟩
    have hsx := isame.mpr (Decidable.not_not.mp q)
    have hnn : oc z a ≠ Ob.nil := fun h => q2 (k0'.mpr h)
    rw [if_neg hnn, if_pos hsx] at hRv
    have more : ∀ x2' : Int, bq x2' ch → pv_4_makeRound_237 (fun x1 x2 x3 x4 y => x1 = c ∧ ∃ (n : Nat) (pre post : List Ob) (ch : Bool) (tr : TrL), x3 = (pre.length : Int) ∧ bq x2 ch ∧ 0 ≤ x4 ∧ x4 + (post.length : Int) ≤ 30 ∧ CG f8Zp f8Pr v y ∧ OtC (fun j => j ≠ c) v y ∧ (y.1 14 = wc ∧ y.1 15 = lf ∧ y.1 32 = 0 ∧ y.1 26 = v.1 26 ∧ y.2.1 52 = v.2.1 52 ∧ y.1 29 = v.1 29) ∧ ClW y E c ∧ clC y c = pre ++ post ∧ y.2.1 48 c = (rd : Int) + 1 ∧ RdT (ExT v) rd n pre post ch tr o ∧ NtL E y (y.1 28) (tr ++ tr2) (y.1 26)) Q c x2' x4 (pre.length : Int) z := by
      intro x2' hx2
      unfold pv_4_makeRound_237
      intro _ _
      exact ⟨rfl, n', pre ++ [x], post', ch, tr', by rw [List.length_append]; show _ = ((pre.length + 1 : Nat) : Int); omega, hx2, by omega, by omega, gvz, otz, ⟨z14, z15, z32, z26, z52, z29⟩, hCz, by rw [elz, List.append_assoc]; rfl, z48, hRv, hNz⟩
    unfold pv_4_makeRound_203 pv_4_makeRound_214 pv_4_makeRound_219
    refine ⟨fun q3 => ⟨fun _ => more 1 ⟨(fun h => by cases h), fun h => by rw [hch.t q3] at h; cases h⟩, fun h => absurd (by decide) h⟩, fun q3 => ⟨fun _ => ⟨fun _ => more 0 ⟨fun _ => hch.f (Decidable.not_not.mp q3), fun _ => rfl⟩, fun h => absurd (by decide) h⟩, fun h => absurd (by decide) h⟩⟩
  refine pc_isCallK 3 hTz na.1 (by decide) (by decide) (o := Ob.ifS) rfl (fun r1 hr1 => ⟨fun q => spl (by unfold Sp.splits; rw [hr1.t q]; rfl), fun q => ?_⟩)
  have h3 := hr1.f (Decidable.not_not.mp q)
  refine pc_isCallK 16 hTz na.1 (by decide) (by decide) (o := Ob.not) rfl (fun r2 hr2 => ⟨fun q2 => nospl (by unfold Sp.splits; rw [h3, hr2.f q2]; rfl), fun q2 => ?_⟩)
  have h16' := hr2.t q2
  refine pc_item hTz na.1 (by decide) (fun i vi ei => pc_isCallK 3 hTz vi (by decide) (by decide) (o := Ob.ifS) rfl (fun r3 hr3 => ⟨fun q3 => nospl ?_, fun q3 => spl ?_⟩))
  · have := hr3.f q3
    rw [ei] at this
    unfold Sp.splits
    rw [h3, h16']
    exact this
  · have := hr3.t q3
    rw [ei] at this
    unfold Sp.splits
    rw [h3, h16']
    exact this
