-- deps: 7587
/-! the class: proving from the notes, of what is there -/
theorem PvT_consX [DecidableEq Ob] {X : Ob → Prop} {n : Nat} {d : Sp.Cla} {ws : List Sp.Cla} {tr : TrL} (h : PvT X n (d :: ws) tr) : ∃ n', (Sp.plainC d.1 = true → PvT X n' ws tr) ∧ (Sp.plainC d.1 = false → d.2 ≠ 6 ∧ ∃ (tr1 tr2 : TrL) (o : Sp.Out), tr = tr1 ++ tr2 ∧ RdT X d.2 31 [] d.1 false tr1 o ∧ PvM (fun l => PvT X n' l tr2) ws o) := by
  cases n with
  | zero => exact absurd h (fun q => q)
  | succ n' =>
    refine ⟨n', fun hp => ?_, fun hp => ?_⟩
    · have h : (if Sp.plainC d.1 = true then PvT X n' ws tr else _) := h
      rw [if_pos hp] at h
      exact h
    · have h : (if Sp.plainC d.1 = true then PvT X n' ws tr else _) := h
      rw [if_neg (by rw [hp]; decide)] at h
      exact h
theorem pc_proveX [DecidableEq Ob] {m : Nat} {Q : iST → Prop} {v : iST} {E : Sp.Env} {gs0 : List Sp.Cla} {tr0 : TrL} (hT : CT v) (hg0 : GivC v E 0 gs0) (hP0 : PvT (ExT v) m gs0 tr0) (h32 : v.1 32 = 0) (h28 : v.1 28 = 0) (hN0 : NtL E v 0 tr0 (v.1 26)) (hq : ∀ w, CG f8Zq f8Pr v w → w.1 15 = 0 → (w.1 13 = v.1 13 ∧ w.1 26 = v.1 26 ∧ w.2.1 52 = v.2.1 52 ∧ OtC (fun j => j < 120) v w) → (w.1 32 = 0 ∧ w.1 29 = v.1 29 ∧ w.1 28 = w.1 26 ∧ w.1 16 = 1) → Q w) : pv_4_prove 1 Q v := by
  unfold pv_4_prove
  intro _ v1 e1 v2 e2
  have g1 : CG f8Zq f8Pr v v1 := by rw [e1]; exact CG_I hT (by decide) (by decide)
  have g2 : CG f8Zq f8Pr v1 v2 := by rw [e2]; exact CG_I g1.1 (by decide) (by decide)
  have g := g1.tr g2
  have v2r : v2.2 = v.2 := by rw [e2, e1]; rfl
  have v2n : ∀ k, k ≠ 15 → k ≠ 16 → v2.1 k = v.1 k := fun k h1 h2 => by rw [e2, e1]; show (if k = 15 then _ else if k = 16 then _ else v.1 k) = _; rw [if_neg h1, if_neg h2]
  have v16 : v2.1 16 = 1 := by rw [e2, e1]; rfl
  have v15 : v2.1 15 = 0 := by rw [e2]; rfl
  have ot2 : ∀ {P : Int → Prop}, OtC P v v2 := OtC.of (fun k _ _ => by rw [v2r])
  have hT2 := g.1
  have hg2 : GivC v2 E 0 gs0 := GivC.ot hT g (ot2 (P := fun _ => True)) (v2n 13 (by decide) (by decide)) (fun _ _ => trivial) gs0 0 hg0
  have hN2 : NtL E v2 (v2.1 28) tr0 (v2.1 26) := by
    rw [v2n 28 (by decide) (by decide), v2n 26 (by decide) (by decide), h28]
    exact NtL.keep hT g tr0 _ _ hN0 (fun i _ => by rw [v2r])
  have over : ∀ y, DdK v2 y → (y.1 32 = 0 ∧ y.1 29 = v2.1 29 ∧ y.1 28 = y.1 26) → Q y := fun y dy hh => hq y (g.tr (dy.1.mono f8Zp_q (fun _ h => h))) (by rw [dy.2.1]; exact v15) ⟨by rw [dy.2.2.1, v2n 13 (by decide) (by decide)], by rw [dy.2.2.2.1, v2n 26 (by decide) (by decide)], by rw [dy.2.2.2.2.1, v2r], ot2.tr dy.2.2.2.2.2⟩ ⟨hh.1, by rw [hh.2.1, v2n 29 (by decide) (by decide)], hh.2.2, by rw [dy.1.2.2.1 16 (by decide)]; exact v16⟩
  have hxv : ∀ {y : iST}, DdK v2 y → ∀ o, ExT v o → ExT y o := fun {y} dy o ho => (ho.up hT g).up hT2 dy.1
  refine pv_4_prove_12_i (fun x2 y => DdK v2 y ∧ (y.1 32 = 0 ∧ y.1 29 = v2.1 29) ∧ ∃ gs n tr, 0 ≤ x2 ∧ GivC y E x2 gs ∧ PvT (ExT v) n gs tr ∧ NtL E y (y.1 28) tr (y.1 26)) ?_ ⟨DdK.rf hT2, ⟨by rw [v2n 32 (by decide) (by decide)]; exact h32, rfl⟩, gs0, m, tr0, Int.le_refl _, hg2, hP0, hN2⟩
  rintro x2 y ⟨dy, ⟨y32, y29⟩, gs, n, tr, x0, hG, hP, hN⟩
  have gy := dy.1
  have y15 : y.1 15 = 0 := by rw [dy.2.1]; exact v15
  unfold pv_4_prove_12b
  intro n1 en1 _
  rw [en1]
  refine ⟨fun q => ?_, fun z => ?_⟩
  · refine over y dy ⟨y32, y29, ?_⟩
    cases gs with
    | nil =>
      have e : tr = [] := by cases n <;> exact hP
      rw [e] at hN
      exact hN
    | cons d gs => have := hG.2.2.2.1; omega
  intro n2 en2 _
  rw [en2, y15]
  refine ⟨fun q => absurd q (by decide), fun _ => ?_⟩
  intro n3 en3 _
  rw [en3]
  refine ⟨fun q3 => absurd y32 q3, fun _ => ?_⟩
  intro _ _ _ _
  cases gs with
  | nil => exact absurd (Int.le_of_eq hG) z
  | cons d gs =>
  obtain ⟨x120, hA, hd0, _, hG'⟩ := hG
  refine pc_copy1 (E := E) gy.1 (c := 120 + 0) (a := x2) (by omega) hA.1 (fun w kw wn hW ew h48 => ?_)
  intro w2 ew2
  have gw2 : CG f8Zp f8Pr w w2 := by rw [ew2]; exact CG_I kw.1.1 (by decide) (by decide)
  have w2r : w2.2 = w.2 := by rw [ew2]; rfl
  have w2n : ∀ k, k ≠ 14 → w2.1 k = y.1 k := fun k hk => by rw [ew2]; show (if k = 14 then _ else w.1 k) = _; rw [if_neg hk, wn]
  have w214 : w2.1 14 = 1 := by rw [ew2]; rfl
  have gyw : CG f8Zp f8Pr y w2 := (kw.1.mono f80_Zp f8C_P).tr gw2
  have otw : OtC (fun j => j ≠ 120) y w2 := (kw.ot (fun j hj => by omega)).tr (OtC.of (fun k _ _ => by rw [w2r]))
  obtain ⟨hW2, eW2⟩ := hW.up kw.1.1 gw2 (fun k _ _ => by rw [w2r])
  have hAw : ClA w2 E 120 d := ⟨hW2, by rw [show (120 : Int) = 120 + 0 from rfl, eW2, ew]; exact hA.2.1, by rw [w2r, show (120 : Int) = 120 + 0 from rfl, h48]; exact hA.2.2⟩
  have ddw : DdK y w2 := (kw.1.ddk f80_Zp f8C_P (by decide) (kw.ok.c (by decide))).tr (ddk_I kw.1.1 ew2 (by decide) (by decide) (by decide))
  have hNw : NtL E w2 (w2.1 28) tr (w2.1 26) := by
    rw [w2n 28 (by decide), w2n 26 (by decide)]
    exact NtL.keep gy.1 gyw tr _ _ hN (fun i _ => by rw [w2r, kw.1.2.2.2 52 (by decide)])
  -- what waits
  refine pv_4_prove_61_i (fun z2 z3 y => z2 = x2 ∧ DdK v2 y ∧ (y.1 32 = 0 ∧ y.1 29 = v2.1 29) ∧ ∃ ws gs n tr, 0 ≤ z3 ∧ z3 + potC ws ≤ 127 ∧ StkC y E ws ∧ y.1 14 = (ws.length : Int) ∧ GivC y E (x2 + 1) gs ∧ PvT (ExT v) n (ws ++ gs) tr ∧ NtL E y (y.1 28) tr (y.1 26)) ?_ ⟨rfl, dy.tr ddw, ⟨by rw [w2n 32 (by decide)]; exact y32, by rw [w2n 29 (by decide)]; exact y29⟩, [d], gs, n, tr, Int.le_refl _, ?_, ⟨hAw, Nat.zero_le _, by omega, trivial⟩, w214, GivC.ot gy.1 gyw otw (w2n 13 (by decide)) (fun j hj => by omega) gs (x2 + 1) hG', hP, hNw⟩
  rotate_left
  · show 0 + (fRd d.2 + 0) ≤ 127
    rw [hd0]; decide
  clear hN hP hAw hG' w214 w2n hNw ddw y15 dy y32 y29
  rintro z2 z3 y ⟨ez2, dy, ⟨y32, y29⟩, ws, gs, n, tr, j0, hpot, hS, h14, hG, hP, hN⟩
  have gy := dy.1
  have y15 : y.1 15 = 0 := by rw [dy.2.1]; exact v15
  rw [ez2]
  have hTy := gy.1
  unfold pv_4_prove_61b
  have pp := potC_pos ws
  refine ⟨fun q => by omega, fun _ => ?_⟩
  intro n10 en10 _
  rw [en10, h14]
  refine ⟨fun q _ => ⟨dy, ⟨y32, y29⟩, gs, n, tr, by omega, hG, ?_, hN⟩, fun q => ?_⟩
  · have : ws = [] := List.eq_nil_of_length_eq_zero (by omega)
    rw [this] at hP
    exact hP
  intro n12 en12 _
  rw [en12, y15]
  refine ⟨fun q2 => absurd q2 (by decide), fun q2 => ?_⟩
  intro n14 en14 _
  rw [en14]
  refine ⟨fun q3 => absurd y32 q3, fun _ => ?_⟩
  intro n16 en16 _
  rw [en16]
  cases ws with
  | nil => exact absurd (Int.le_refl _) q
  | cons d ws =>
  intro _ _ _
  have ec : 120 + (((d :: ws).length : Int) - 1) = 120 + (ws.length : Int) := by show 120 + (((ws.length + 1 : Nat) : Int) - 1) = _; omega
  rw [ec]
  have h14 : y.1 14 = ((ws.length + 1 : Nat) : Int) := h14
  obtain ⟨hA, hw1, hw6, hS'⟩ := hS
  have hpot : z3 + (fRd d.2 + potC ws) ≤ 127 := hpot
  have hP : PvT (ExT v) n (d :: (ws ++ gs)) tr := hP
  have fpos := fRd_pos d.2
  have y16 : y.1 16 ≠ 0 := by rw [gy.2.2.1 16 (by decide), v16]; decide
  obtain ⟨n', hPp, hPr⟩ := PvT_consX hP
  refine pc_isPlain hTy hA.1 (fun r hr => ⟨fun q4 => ?_, fun q4 => ?_⟩)
  rotate_left
  · have hp := hr.t q4
    rw [hA.2.1] at hp
    intro n26 en26 _ _ y2 ey2 _
    have g2' : CG f8Zp f8Pr y y2 := by rw [ey2]; exact CG_I hTy (by decide) (by decide)
    have y2r : y2.2 = y.2 := by rw [ey2]; rfl
    have y2n : ∀ k, k ≠ 14 → y2.1 k = y.1 k := fun k hk => by rw [ey2]; exact if_neg hk
    have o2 : ∀ {P : Int → Prop}, OtC P y y2 := OtC.of (fun k _ _ => by rw [y2r])
    refine ⟨rfl, dy.tr (ddk_I hTy ey2 (by decide) (by decide) (by decide)), ⟨by rw [y2n 32 (by decide)]; exact y32, by rw [y2n 29 (by decide)]; exact y29⟩, ws, gs, n', tr, by omega, by omega, StkC.ot hTy g2' (o2 (P := fun _ => True)) ws hS' (fun _ _ _ => trivial), ?_, GivC.ot hTy g2' (o2 (P := fun _ => True)) (y2n 13 (by decide)) (fun _ _ => trivial) gs (x2 + 1) hG, hPp hp, ?_⟩
    · rw [ey2]
      show n26 - 1 = _
      rw [en26, h14]; omega
    · rw [y2n 28 (by decide), y2n 26 (by decide)]
      exact NtL.keep hTy g2' tr _ _ hN (fun i _ => by rw [y2r])
  have hnp := hr.f q4
  rw [hA.2.1] at hnp
  obtain ⟨h6, tr1, tr2, o, etr, hR, ho⟩ := hPr hnp
  intro n21 en21 _
  rw [en21, hA.2.2]
  refine ⟨fun q5 => ?_, fun q5 => by omega⟩
  -- a ROUND
  have hfs := fRd_step d.2 (by omega)
  rw [etr] at hN
  refine pc_roundX (wc := (ws.length : Int) + 1) (lf := 0) (tr := tr1) (tr2 := tr2) (o := o) hTy hA.1 hA.2.2 y32 y16 (by rw [h14]; omega) (by omega) ⟨by omega, by omega⟩ y15 ⟨by omega, by omega⟩ (by rw [hA.2.1]; exact RdT.mono (hxv dy) _ _ _ _ _ hR) hN (fun e h => by rw [h] at ho; exact ho) (fun w gw w32 hro hNw w26 w52 w29 _ => ?_)
  have w13 : w.1 13 = y.1 13 := gw.2.2.1 13 (by decide)
  have w2932 : w.1 32 = 0 ∧ w.1 29 = v2.1 29 := ⟨w32, by rw [w29]; exact y29⟩
  have ddw : w.1 15 = 0 → OtC (fun j => j < 120) y w → DdK v2 w := fun h o => dy.tr ⟨gw, by rw [h, y15], w13, w26, w52, o⟩
  cases o with
  | none =>
    obtain ⟨o1, o2, o3⟩ := hro
    have f1 := fRd_pos (d.2 + 1)
    exact ⟨rfl, ddw o3 (o1.sub (fun j hj => by omega)), w2932, ws, gs, n', tr2, by omega, by omega, StkC.ot hTy gw o1 ws hS' (fun j h1 h2 => by omega), by rw [o2]; omega, GivC.ot hTy gw o1 w13 (fun j hj => by omega) gs (x2 + 1) hG, ho, hNw⟩
  | some o =>
    cases o with
    | inl ab =>
      obtain ⟨a, b⟩ := ab
      obtain ⟨o1, o2, o3, oa, ob', ea, eb⟩ := hro
      refine ⟨rfl, ddw o3 (o1.sub (fun j hj => by omega)), w2932, a :: b :: ws, gs, n', tr2, by omega, ?_, ⟨?_, by show ws.length + 1 ≤ a.2; omega, by omega, ob', by omega, by omega, StkC.ot hTy gw o1 ws hS' (fun j h1 h2 => by omega)⟩, by rw [o2]; show _ = ((ws.length + 1 + 1 : Nat) : Int); omega, GivC.ot hTy gw o1 w13 (fun j hj => by omega) gs (x2 + 1) hG, ho, hNw⟩
      · show z3 + 1 + (fRd a.2 + (fRd b.2 + potC ws)) ≤ 127
        rw [ea, eb]; omega
      · have : (120 + ((b :: ws).length : Int)) = 120 + (ws.length : Int) + 1 := by show 120 + ((ws.length + 1 : Nat) : Int) = _; omega
        rw [this]; exact oa
    | inr o =>
      cases o with
      | inl e' => exact absurd ho (fun q => q)
      | inr e' =>
        obtain ⟨o1, o2, o3, oa, ea⟩ := hro
        refine ⟨rfl, ddw o3 (o1.sub (fun j hj => by omega)), w2932, e' :: ws, gs, n', tr2, by omega, ?_, ⟨oa, by omega, by omega, StkC.ot hTy gw o1 ws hS' (fun j h1 h2 => by omega)⟩, by rw [o2]; show _ = ((ws.length + 1 : Nat) : Int); omega, GivC.ot hTy gw o1 w13 (fun j hj => by omega) gs (x2 + 1) hG, ho, hNw⟩
        show z3 + 1 + (fRd e'.2 + potC ws) ≤ 127
        have f1 := fRd_pos (d.2 + 1)
        rw [ea]; omega
