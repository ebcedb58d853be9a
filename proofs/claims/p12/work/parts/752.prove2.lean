-- deps: 751
/-! the class: proving, the loops -/
theorem EnvC.gen [DecidableEq Ob] {n r : Nat → Bool} {u v : iST} {E : Sp.Env} (h : EnvC u E) (hT : CT u) (g : CG n r u v) (hn : ∀ k, (k = 0 ∨ k = 1 ∨ k = 25 ∨ k = 27) → v.1 k = u.1 k) (hr : ∀ k, (k ≤ 13 ∨ k = 50) → v.2.1 k = u.2.1 k) : EnvC v E := ⟨h.1.mono hT g (hn 0 (by decide)) (fun k hk => hr k (by omega)), h.2.1, h.2.2.1, h.2.2.2.1.mono hT g (hn 1 (by decide)) (fun k h1 h2 => hr k (by omega)) (hr 50 (by decide)), by rw [hn 25 (by decide), hn 1 (by decide)]; exact h.2.2.2.2.1, by rw [hn 27 (by decide)]; exact h.2.2.2.2.2⟩
/-- it has come to its end -/
def EndP [DecidableEq Ob] (E : Sp.Env) (B : Int) (p0 : Sp.Pv) (y : iST) : Prop := (∃ ls s, Lv B y s ∧ LfOC y E ls ∧ 20 ≤ ls.length ∧ Sp.PvEnd E p0 (some ls, s)) ∨ ∃ s, Dd_d B 2000 y s ∧ Sp.PvEnd E p0 (none, s)
theorem pc_prove [DecidableEq Ob] {B : Int} {Q : iST → Prop} {v : iST} {E : Sp.Env} {gs0 : List Sp.Cla} {s0 : Sp.Wk} (hT : CT v) (hE : EnvC v E) (hl0 : Lv B v s0) (h30 : v.1 30 ≤ 1000) (h26 : 0 ≤ v.1 26 ∧ v.1 26 ≤ v.1 31) (hG0 : NtG E v) (hg0 : GivC v E 0 gs0) (fit : ∀ c ws ls s, PvR E (gs0, [], s0) (c :: ws, ls, s) → Fit (B + 16) (Sp.roundGo E c.2 31 [] c.1 false s))
    (hq : ∀ w r, CG f8Qn f8Pr v w → (w.1 32 = 0 → OtC (fun j => j < 120) v w) → Sp.PvEnd E (gs0, [], s0) r → (match r.1 with | some ls => Lv B w r.2 ∧ LfOC w E ls | none => Dd_d B 2000 w r.2) → (r.1 = some [] → ∃ m tr, PvT (ExT w) m gs0 tr ∧ NtL E w (v.1 26) tr (w.1 26) ∧ NtG E w) → Q w) : pv_4_prove 0 Q v := by
  unfold pv_4_prove
  intro _ v1 e1 v2 e2
  have g1 : CG f8Qn f8Pr v v1 := by rw [e1]; exact CG_I hT (by decide) (by decide)
  have g2 : CG f8Qn f8Pr v1 v2 := by rw [e2]; exact CG_I g1.1 (by decide) (by decide)
  have g := g1.tr g2
  have v2r : v2.2 = v.2 := by rw [e2, e1]; rfl
  have v2n : ∀ k, k ≠ 15 → k ≠ 16 → v2.1 k = v.1 k := fun k h1 h2 => by rw [e2, e1]; show (if k = 15 then _ else if k = 16 then _ else v.1 k) = _; rw [if_neg h1, if_neg h2]
  have v16 : v2.1 16 = 0 := by rw [e2, e1]; rfl
  have v15 : v2.1 15 = 0 := by rw [e2]; rfl
  have ot2 : ∀ {P : Int → Prop}, OtC P v v2 := OtC.of (fun k _ _ => by rw [v2r])
  have hT2 := g.1
  have hE2 : EnvC v2 E := hE.gen hT g (fun k hk => v2n k (by omega) (by omega)) (fun k _ => by rw [v2r])
  have hl2 : Lv B v2 s0 := by
    have h1 := hl0.2.1
    refine ⟨by rw [v2n 32 (by decide) (by decide)]; exact hl0.1, ?_, by rw [v2n 29 (by decide) (by decide)]; exact hl0.2.2⟩
    unfold StS StC at h1 ⊢
    rw [v2n 31 (by decide) (by decide), v2n 30 (by decide) (by decide)]
    exact h1
  have hg2 : GivC v2 E 0 gs0 := GivC.ot hT g (ot2 (P := fun _ => True)) (v2n 13 (by decide) (by decide)) (fun _ _ => trivial) gs0 0 hg0
  have v230 : v2.1 30 ≤ 1000 := by rw [v2n 30 (by decide) (by decide)]; exact h30
  have U0 : PvU E v v2 gs0 gs0 [] := ⟨NtK.of (v2n 26 (by decide) (by decide)) (Int.le_of_eq (v2n 31 (by decide) (by decide)).symm) (by rw [v2r]), ⟨by rw [v2n 26 (by decide) (by decide), v2n 31 (by decide) (by decide)]; exact h26.2, hG0.keep hT g (v2n 26 (by decide) (by decide)) (fun i _ => by rw [v2r])⟩, fun _ => ⟨[], (v2n 26 (by decide) (by decide)).symm, fun X _ n tr2 h => ⟨n, h⟩⟩⟩
  -- how it ends
  have over : ∀ y, CG f8Pn f8Pr v2 y → (y.1 32 = 0 → OtC (fun j => j < 120) v2 y) → EndP E B (gs0, [], s0) y → Q y := by
    rintro y gy oy (⟨ls, s, h1, h2, h3, h4⟩ | ⟨s, h1, h2⟩)
    · exact hq y (some ls, s) (g.tr (gy.mono f8Pn_Q (fun _ h => h))) (fun h => ot2.tr (oy h)) h4 ⟨h1, h2⟩ (fun e => by injection e with e; rw [e] at h3; exact absurd h3 (by decide))
    · exact hq y (none, s) (g.tr (gy.mono f8Pn_Q (fun _ h => h))) (fun h => ot2.tr (oy h)) h2 h1 (fun e => by cases e)
  refine pv_4_prove_12_i (fun x2 y => CG f8Pn f8Pr v2 y ∧ (y.1 32 = 0 → OtC (fun j => j < 120) v2 y) ∧ ((∃ gs ls s, 0 ≤ x2 ∧ Lv B y s ∧ GivC y E x2 gs ∧ LfOC y E ls ∧ ls.length ≤ 20 ∧ PvR E (gs0, [], s0) (gs, ls, s) ∧ PvU E v y gs0 gs ls) ∨ EndP E B (gs0, [], s0) y)) ?_ ⟨CG.rf hT2, fun _ => OtC.rf, Or.inl ⟨gs0, [], s0, Int.le_refl _, hl2, hg2, ⟨v15, fun i d h => by cases h⟩, Nat.zero_le _, ⟨0, rfl⟩, U0⟩⟩
  rintro x2 y ⟨gy, oy, hI⟩
  unfold pv_4_prove_12b
  intro n1 en1 _
  rw [en1]
  rcases hI with ⟨gs, ls, s, x0, hl, hG, hL, l20, hR, hU⟩ | hend
  rotate_left
  · refine ⟨fun _ => over y gy oy hend, fun _ => ?_⟩
    intro n2 en2 _
    rw [en2]
    refine ⟨fun _ => over y gy oy hend, fun q => ?_⟩
    intro n3 en3 _
    rw [en3]
    refine ⟨fun _ => over y gy oy hend, fun q2 => ?_⟩
    rcases hend with ⟨ls, s, h1, h2, h3, _⟩ | ⟨s, h1, _⟩
    · have := h2.1; omega
    · exact absurd h1.1 q2
  have full : 20 ≤ ls.length → EndP E B (gs0, [], s0) y := fun h => Or.inl ⟨ls, s, hl, hL, h, hR.fin (Sp.PvEnd.of (pv_full h))⟩
  refine ⟨fun z => ?_, fun z => ?_⟩
  · cases gs with
    | nil => exact hq y (some ls, s) (g.tr (gy.mono f8Pn_Q (fun _ h => h))) (fun h => ot2.tr (oy h)) (hR.fin (Sp.PvEnd.of rfl)) ⟨hl, hL⟩ (fun e => by
      injection e with e
      obtain ⟨tr1, q1, q2⟩ := hU.2.2 e
      obtain ⟨m, q3⟩ := q2 (ExT y) (fun _ h => h) 0 [] rfl
      rw [List.append_nil] at q3
      exact ⟨m, tr1, q3, q1, hU.2.1.2⟩)
    | cons d gs => have := hG.2.2.2.1; omega
  intro n2 en2 _
  rw [en2, hL.1]
  refine ⟨fun q => over y gy oy (full (by omega)), fun q => ?_⟩
  intro n3 en3 _
  rw [en3]
  refine ⟨fun q2 => absurd hl.1 q2, fun _ => ?_⟩
  intro _ _ _ _
  cases gs with
  | nil => exact absurd (Int.le_of_eq hG) z
  | cons d gs =>
  obtain ⟨x120, hA, hd0, _, hG'⟩ := hG
  refine pc_copy1 (E := E) gy.1 (c := 120 + 0) (a := x2) (by omega) hA.1 (fun w kw wn hW ew h48 => ?_)
  intro w2 ew2
  have gw2 : CG f8Pn f8Pr w w2 := by rw [ew2]; exact CG_I kw.1.1 (by decide) (by decide)
  have w2r : w2.2 = w.2 := by rw [ew2]; rfl
  have w2n : ∀ k, k ≠ 14 → w2.1 k = y.1 k := fun k hk => by rw [ew2]; show (if k = 14 then _ else w.1 k) = _; rw [if_neg hk, wn]
  have w214 : w2.1 14 = 1 := by rw [ew2]; rfl
  have gyw : CG f8Pn f8Pr y w2 := (kw.1.mono f80_P f8C_P).tr gw2
  have otw : OtC (fun j => j ≠ 120) y w2 := (kw.ot (fun j hj => by omega)).tr (OtC.of (fun k _ _ => by rw [w2r]))
  obtain ⟨hW2, eW2⟩ := hW.up kw.1.1 gw2 (fun k _ _ => by rw [w2r])
  have hlw : Lv B w2 s := by
    have h1 := hl.2.1
    refine ⟨by rw [w2n 32 (by decide)]; exact hl.1, ?_, by rw [w2n 29 (by decide)]; exact hl.2.2⟩
    unfold StS StC at h1 ⊢
    rw [w2n 31 (by decide), w2n 30 (by decide)]
    exact h1
  have hAw : ClA w2 E 120 d := ⟨hW2, by rw [show (120 : Int) = 120 + 0 from rfl, eW2, ew]; exact hA.2.1, by rw [w2r, show (120 : Int) = 120 + 0 from rfl, h48]; exact hA.2.2⟩
  -- what waits
  refine pv_4_prove_61_i (fun z2 z3 y => z2 = x2 ∧ CG f8Pn f8Pr v2 y ∧ (y.1 32 = 0 → OtC (fun j => j < 120) v2 y) ∧ ((∃ ws gs ls s, 0 ≤ z3 ∧ z3 + potC ws ≤ 127 ∧ Lv B y s ∧ StkC y E ws ∧ y.1 14 = (ws.length : Int) ∧ GivC y E (x2 + 1) gs ∧ LfOC y E ls ∧ ls.length ≤ 20 ∧ PvR E (gs0, [], s0) (ws ++ gs, ls, s) ∧ PvU E v y gs0 (ws ++ gs) ls) ∨ EndP E B (gs0, [], s0) y)) ?_ ⟨rfl, gy.tr gyw, fun _ => (oy hl.1).tr (otw.sub (fun j hj => by omega)), Or.inl ⟨[d], gs, ls, s, Int.le_refl _, ?_, hlw, ⟨hAw, Nat.zero_le _, by omega, trivial⟩, w214, GivC.ot gy.1 gyw otw (w2n 13 (by decide)) (fun j hj => by omega) gs (x2 + 1) hG', hL.ot gy.1 gyw otw (w2n 15 (by decide)) (fun j h1 h2 => by omega), l20, hR, hU.keep gy.1 gyw (w2n 26 (by decide)) (w2n 31 (by decide)) (by rw [w2r]; exact kw.1.2.2.2 52 (by decide))⟩⟩
  rotate_left
  · show 0 + (fRd d.2 + 0) ≤ 127
    rw [hd0]; decide
  clear hU hR hL l20 hl hlw hAw full hG' w214 w2n
  rintro z2 z3 y ⟨ez2, gy, oy, hI⟩
  rw [ez2]
  have hTy := gy.1
  unfold pv_4_prove_61b
  rcases hI with ⟨ws, gs, ls, s, j0, hpot, hl, hS, h14, hG, hL, l20, hR, hU⟩ | hend
  rotate_left
  · have nx : (CG f8Pn f8Pr v2 y ∧ (y.1 32 = 0 → OtC (fun j => j < 120) v2 y) ∧ ((∃ gs ls s, 0 ≤ x2 + 1 ∧ Lv B y s ∧ GivC y E (x2 + 1) gs ∧ LfOC y E ls ∧ ls.length ≤ 20 ∧ PvR E (gs0, [], s0) (gs, ls, s) ∧ PvU E v y gs0 gs ls) ∨ EndP E B (gs0, [], s0) y)) := ⟨gy, oy, Or.inr hend⟩
    refine ⟨fun _ _ => nx, fun _ => ?_⟩
    intro n10 en10 _
    refine ⟨fun _ _ => nx, fun _ => ?_⟩
    intro n12 en12 _
    rw [en12]
    refine ⟨fun _ _ => nx, fun q => ?_⟩
    intro n14 en14 _
    rw [en14]
    refine ⟨fun _ _ => nx, fun q2 => ?_⟩
    rcases hend with ⟨ls, s, h1, h2, h3, _⟩ | ⟨s, h1, _⟩
    · have := h2.1; omega
    · exact absurd h1.1 q2
  have pp := potC_pos ws
  refine ⟨fun q => by omega, fun _ => ?_⟩
  intro n10 en10 _
  rw [en10, h14]
  refine ⟨fun q _ => ⟨gy, oy, Or.inl ⟨gs, ls, s, by omega, hl, hG, hL, l20, ?_⟩⟩, fun q => ?_⟩
  · have : ws = [] := List.eq_nil_of_length_eq_zero (by omega)
    rw [this] at hR hU
    exact ⟨hR, hU⟩
  intro n12 en12 _
  rw [en12, hL.1]
  refine ⟨fun q2 _ => ⟨gy, oy, Or.inr (Or.inl ⟨ls, s, hl, hL, by omega, hR.fin (Sp.PvEnd.of (pv_full (by omega)))⟩)⟩, fun q2 => ?_⟩
  have hlt : ¬ 20 ≤ ls.length := by omega
  intro n14 en14 _
  rw [en14]
  refine ⟨fun q3 => absurd hl.1 q3, fun _ => ?_⟩
  intro n16 en16 _
  rw [en16]
  cases ws with
  | nil => exact absurd (Int.le_refl _) q
  | cons d ws =>
  intro _ _ _
  have ec : 120 + (((d :: ws).length : Int) - 1) = 120 + (ws.length : Int) := by show 120 + (((ws.length + 1 : Nat) : Int) - 1) = _; omega
  rw [ec]
  have h14 : y.1 14 = ((ws.length + 1 : Nat) : Int) := h14
  obtain ⟨hA, hw1, hw6, hS'⟩ := hS
  have hpot : z3 + (fRd d.2 + potC ws) ≤ 127 := hpot
  have hR : PvR E (gs0, [], s0) (d :: (ws ++ gs), ls, s) := hR
  have hU : PvU E v y gs0 (d :: (ws ++ gs)) ls := hU
  have fpos := fRd_pos d.2
  have y16 : y.1 16 = 0 := by rw [gy.2.2.1 16 (by decide)]; exact v16
  have y30 : y.1 30 ≤ 1000 := by rw [gy.2.2.1 30 (by decide)]; exact v230
  refine pc_isPlain hTy hA.1 (fun r hr => ⟨fun q4 => ?_, fun q4 => ?_⟩)
  rotate_left
  · have hp := hr.t q4
    rw [hA.2.1] at hp
    intro n26 en26 _ _ y2 ey2 _
    have g2' : CG f8Pn f8Pr y y2 := by rw [ey2]; exact CG_I hTy (by decide) (by decide)
    have y2r : y2.2 = y.2 := by rw [ey2]; rfl
    have y2n : ∀ k, k ≠ 14 → y2.1 k = y.1 k := fun k hk => by rw [ey2]; exact if_neg hk
    have o2 : ∀ {P : Int → Prop}, OtC P y y2 := OtC.of (fun k _ _ => by rw [y2r])
    have hl' : Lv B y2 s := by
      have h1 := hl.2.1
      refine ⟨by rw [y2n 32 (by decide)]; exact hl.1, ?_, by rw [y2n 29 (by decide)]; exact hl.2.2⟩
      unfold StS StC at h1 ⊢
      rw [y2n 31 (by decide), y2n 30 (by decide)]
      exact h1
    refine ⟨rfl, gy.tr g2', fun _ => (oy hl.1).tr o2, Or.inl ⟨ws, gs, ls, s, by omega, by omega, hl', StkC.ot hTy g2' (o2 (P := fun _ => True)) ws hS' (fun _ _ _ => trivial), ?_, GivC.ot hTy g2' (o2 (P := fun _ => True)) (y2n 13 (by decide)) (fun _ _ => trivial) gs (x2 + 1) hG, hL.ot hTy g2' (o2 (P := fun _ => True)) (y2n 15 (by decide)) (fun _ _ _ => trivial), l20, hR.go (pv_plain hlt hp), (hU.to (ws' := ws ++ gs) (ls' := ls) (fun q => ⟨q, fun X n tr2 h => by
      show if Sp.plainC d.1 = true then PvT X n (ws ++ gs) tr2 else _
      rw [if_pos hp]
      exact h⟩)).keep hTy g2' (y2n 26 (by decide)) (y2n 31 (by decide)) (by rw [y2r])⟩⟩
    rw [ey2]
    show n26 - 1 = _
    rw [en26, h14]; omega
  have hnp := hr.f q4
  rw [hA.2.1] at hnp
  intro n21 en21 _
  rw [en21, hA.2.2]
  refine ⟨fun q5 => ?_, fun q5 => ?_⟩
  rotate_left
  · -- LEFT as it is
    have h6 : d.2 = 6 := by omega
    refine pc_leave (d := d) (lf := (ls.length : Int)) hTy hA h14 hL.1 ⟨by omega, by omega⟩ (by omega) (fun w gw otw' wn w14 w15 hAw w52 _ => ?_)
    have hl' : Lv B w s := by
      have h1 := hl.2.1
      refine ⟨by rw [wn 32 (by decide) (by decide)]; exact hl.1, ?_, by rw [wn 29 (by decide) (by decide)]; exact hl.2.2⟩
      unfold StS StC at h1 ⊢
      rw [wn 31 (by decide) (by decide), wn 30 (by decide) (by decide)]
      exact h1
    have hL' : LfOC w E (ls ++ [d]) := by
      refine ⟨by rw [w15, List.length_append]; show _ = ((ls.length + 1 : Nat) : Int); omega, fun i d' hi => ?_⟩
      by_cases ci : i < ls.length
      · rw [List.getElem?_append_left ci] at hi
        exact (hL.2 i d' hi).ot otw' hTy gw (by omega)
      · rw [List.getElem?_append_right (by omega)] at hi
        have hi1 := (List.getElem?_eq_some_iff.mp hi).1
        have ei : i = ls.length := by simp at hi1; omega
        rw [ei, Nat.sub_self] at hi
        have hi : some d = some d' := hi
        rw [ei, ← Option.some.inj hi]
        exact hAw
    exact ⟨rfl, gy.tr gw, fun _ => (oy hl.1).tr (otw'.sub (fun j hj => by omega)), Or.inl ⟨ws, gs, ls ++ [d], s, by omega, by omega, hl', StkC.ot hTy gw otw' ws hS' (fun j h1 h2 => by omega), by rw [w14]; omega, GivC.ot hTy gw otw' (wn 13 (by decide) (by decide)) (fun j hj => by omega) gs (x2 + 1) hG, hL', by rw [List.length_append]; show ls.length + 1 ≤ 20; omega, hR.go (pv_leave hlt hnp h6), (hU.to (ws' := ws ++ gs) (ls' := ls ++ [d]) (fun q => absurd q (by simp))).keep hTy gw (wn 26 (by decide) (by decide)) (wn 31 (by decide) (by decide)) w52⟩⟩
  -- a ROUND
  have h6 : d.2 ≠ 6 := by omega
  have hfit := fit _ _ _ _ hR
  have hbr : Sp.bd (Sp.roundGo E d.2 31 [] d.1 false) Sp.ret = Sp.roundGo E d.2 31 [] d.1 false := by
    funext s
    unfold Sp.bd
    cases Sp.roundGo E d.2 31 [] d.1 false s <;> rfl
  have hPy : PdK_d B 0 f8Pn f8Pr y y (Sp.roundGo E d.2 31 [] d.1 false s) (Sp.bd (Sp.roundGo E d.2 31 [] (clC y (120 + (ws.length : Int))) false) Sp.ret) := by
    rw [hA.2.1, hbr]
    exact ⟨CG.rf hTy, Or.inl ⟨s, hl, rfl⟩⟩
  have hstep := pv_round (E := E) (ws := ws ++ gs) (s := s) hlt hnp h6
  have hfs := fRd_step d.2 (by omega)
  refine pc_makeRound (wc := (ws.length : Int) + 1) (lf := (ls.length : Int)) hPy hfit (fun _ => Mono.ret) (hE2.P hT2 gy) hA.1 hA.2.2 hl.1 y16 y30 (by rw [h14]; omega) (by omega) ⟨by omega, by omega⟩ hL.1 ⟨by omega, by omega⟩ ⟨by have := hU.1.1; have := h26.1; omega, hU.2.1.1⟩ hU.2.1.2 (fun w o gw w32 ho hPw hto _ => ?_) (fun w gw w32 hd _ => ?_)
  rotate_left
  · obtain ⟨s', hd, e⟩ := hd
    rw [e] at hstep
    exact ⟨rfl, gy.tr gw, fun h => absurd h w32, Or.inr (Or.inr ⟨s', hd, hR.fin (Sp.PvEnd.of hstep)⟩)⟩
  obtain ⟨s', hl', e⟩ := hPw.live w32
  have e : Sp.roundGo E d.2 31 [] d.1 false s = .ok o s' := e
  rw [e] at hstep
  have w13 : w.1 13 = y.1 13 := gw.2.2.1 13 (by decide)
  cases o with
  | none =>
    obtain ⟨o1, o2, o3⟩ := ho
    have f1 := fRd_pos (d.2 + 1)
    exact ⟨rfl, gy.tr gw, fun _ => (oy hl.1).tr (o1.sub (fun j hj => by omega)), Or.inl ⟨ws, gs, ls, s', by omega, by omega, hl', StkC.ot hTy gw o1 ws hS' (fun j h1 h2 => by omega), by rw [o2]; omega, GivC.ot hTy gw o1 w13 (fun j hj => by omega) gs (x2 + 1) hG, hL.ot hTy gw o1 (by rw [o3, hL.1]) (fun j h1 h2 => by omega), l20, hR.go hstep, hU.round hTy gw hA.2.1 hnp h6 hto id (fun _ X n tr2 h => h)⟩⟩
  | some o =>
    cases o with
    | inl ab =>
      obtain ⟨a, b⟩ := ab
      obtain ⟨o1, o2, o3, oa, ob', ea, eb⟩ := ho
      refine ⟨rfl, gy.tr gw, fun _ => (oy hl.1).tr (o1.sub (fun j hj => by omega)), Or.inl ⟨a :: b :: ws, gs, ls, s', by omega, ?_, hl', ⟨?_, by show ws.length + 1 ≤ a.2; omega, by omega, ob', by omega, by omega, StkC.ot hTy gw o1 ws hS' (fun j h1 h2 => by omega)⟩, by rw [o2]; show _ = ((ws.length + 1 + 1 : Nat) : Int); omega, GivC.ot hTy gw o1 w13 (fun j hj => by omega) gs (x2 + 1) hG, hL.ot hTy gw o1 (by rw [o3, hL.1]) (fun j h1 h2 => by omega), l20, hR.go hstep, hU.round (ws' := a :: b :: (ws ++ gs)) hTy gw hA.2.1 hnp h6 hto id (fun _ X n tr2 h => h)⟩⟩
      · show z3 + 1 + (fRd a.2 + (fRd b.2 + potC ws)) ≤ 127
        rw [ea, eb]; omega
      · have : (120 + ((b :: ws).length : Int)) = 120 + (ws.length : Int) + 1 := by show 120 + ((ws.length + 1 : Nat) : Int) = _; omega
        rw [this]; exact oa
    | inr o =>
      cases o with
      | inl e' =>
        obtain ⟨o1, o2, o3, oa, ea⟩ := ho
        have hL' : LfOC w E (ls ++ [e']) := by
          refine ⟨by rw [o3, List.length_append]; show _ = ((ls.length + 1 : Nat) : Int); omega, fun i d' hi => ?_⟩
          by_cases ci : i < ls.length
          · rw [List.getElem?_append_left ci] at hi
            exact (hL.2 i d' hi).ot o1 hTy gw (by omega)
          · rw [List.getElem?_append_right (by omega)] at hi
            have hi1 := (List.getElem?_eq_some_iff.mp hi).1
            have ei : i = ls.length := by simp at hi1; omega
            rw [ei, Nat.sub_self] at hi
            have hi : some e' = some d' := hi
            rw [ei, ← Option.some.inj hi]
            exact oa
        have f1 := fRd_pos (d.2 + 1)
        exact ⟨rfl, gy.tr gw, fun _ => (oy hl.1).tr (o1.sub (fun j hj => by omega)), Or.inl ⟨ws, gs, ls ++ [e'], s', by omega, by omega, hl', StkC.ot hTy gw o1 ws hS' (fun j h1 h2 => by omega), by rw [o2]; omega, GivC.ot hTy gw o1 w13 (fun j hj => by omega) gs (x2 + 1) hG, hL', by rw [List.length_append]; show ls.length + 1 ≤ 20; omega, hR.go hstep, hU.round hTy gw hA.2.1 hnp h6 hto (fun q => absurd q (by simp)) (fun q => absurd q (by simp))⟩⟩
      | inr e' =>
        obtain ⟨o1, o2, o3, oa, ea⟩ := ho
        refine ⟨rfl, gy.tr gw, fun _ => (oy hl.1).tr (o1.sub (fun j hj => by omega)), Or.inl ⟨e' :: ws, gs, ls, s', by omega, ?_, hl', ⟨oa, by omega, by omega, StkC.ot hTy gw o1 ws hS' (fun j h1 h2 => by omega)⟩, by rw [o2]; show _ = ((ws.length + 1 : Nat) : Int); omega, GivC.ot hTy gw o1 w13 (fun j hj => by omega) gs (x2 + 1) hG, hL.ot hTy gw o1 (by rw [o3, hL.1]) (fun j h1 h2 => by omega), l20, hR.go hstep, hU.round (ws' := e' :: (ws ++ gs)) hTy gw hA.2.1 hnp h6 hto id (fun _ X n tr2 h => h)⟩⟩
        show z3 + 1 + (fRd e'.2 + potC ws) ≤ 127
        have f1 := fRd_pos (d.2 + 1)
        rw [ea]; omega
