-- deps: 720
/-! the class: evaluation, whole -/
theorem dfn_base [DecidableEq Ob] {u : iST} {E : Sp.Env} (hT : CT u) (hD : DOc u E) {f : Int} (hf : VN u f) (h : f ≤ 16) : E.dfn (oc u f) = none := by
  refine dfn_no hT hD hf (fun j j0 j1 z => ?_)
  obtain ⟨v1, nm, _⟩ := hD.2.2 j j0 j1
  have := (oc_isName hT v1).mp nm
  omega
/-- a BASE function's terms have values -/
theorem evc_base [DecidableEq Ob] {u0 : iST} {E : Sp.Env} {B : Int} {Q : Int → iST → Prop} (hT0 : CT u0) (hD0 : DOc u0 E) {c b t : Int} {w : iST} {s : Sp.Ek} {n : Nat} (c0 : 0 ≤ c) (gw : CG f8En f8Er u0 w) (hS : EvSc B w s (c + 1) (b + (n : Int))) (hf : VN w (w.2.1 16 c)) (f3 : 4 ≤ w.2.1 16 c ∧ w.2.1 16 c ≤ 16) (h18 : w.2.1 18 c = b) (h19 : w.2.1 19 c = 0) (h17 : VN w (w.2.1 17 c)) (np : (oc w (w.2.1 17 c)).isPr = false) (hn : Sp.arOf E (oc w (w.2.1 16 c)) = (n : Int)) (hv : ∀ i, b ≤ i → i < b + (n : Int) → VN w (w.2.1 22 i)) (t1 : t < 1000000) (room : Ob.base (oc w (w.2.1 16 c)) ((lsC w (w.2.1 22) b n).getD 0 Ob.nil) ((lsC w (w.2.1 22) b n).getD 1 Ob.nil) ≠ none → B + (s.2.2 : Int) + 1 ≤ 160000)
    (ok : ∀ z v, Ob.base (oc w (w.2.1 16 c)) ((lsC w (w.2.1 22) b n).getD 0 Ob.nil) ((lsC w (w.2.1 22) b n).getD 1 Ob.nil) = some v → EvK c b w z → EvSc B z (s.1, s.2.1, s.2.2 + 1) c (b + 1) → z.1 6 = w.2.1 20 c → z.1 7 = w.2.1 21 c → VN z (z.2.1 22 b) → oc z (z.2.1 22 b) = v → pv_2_evaluated_35 Q (-1) (t + 1) z)
    (bad : Ob.base (oc w (w.2.1 16 c)) ((lsC w (w.2.1 22) b n).getD 0 Ob.nil) ((lsC w (w.2.1 22) b n).getD 1 Ob.nil) = none → ∀ z, CG f8En f8Er w z → z.1 9 = 3 → z.1 31 = w.1 31 → z.1 30 = w.1 30 → z.1 32 = 0 → z.1 29 ≤ w.1 29 → Q (-1) z) : pv_2_evaluated_35 Q (-1) t w := by
  obtain ⟨s4, s5, s9, s32, s8, s31, s29⟩ := hS
  have kf := gw.1.2.2.2 (w.2.1 16 c).toNat (by omega)
  rw [show (((w.2.1 16 c).toNat : Nat) : Int) = w.2.1 16 c by omega] at kf
  have har := arOf_base (E := E) (i := (w.2.1 16 c).toNat) (by omega) (by omega) kf.symm
  have hn12 : n = 1 ∨ n = 2 := by
    rw [har, if_neg (by omega)] at hn
    split at hn <;> omega
  have g0 : (lsC w (w.2.1 22) b n).getD 0 Ob.nil = oc w (w.2.1 22 b) := by
    rw [List.getD_eq_getElem?_getD, lsC_get w _ b n (i := 0) (by omega), show b + ((0 : Nat) : Int) = b by omega]; rfl
  have g1 : (lsC w (w.2.1 22) b n).getD 1 Ob.nil = if Sp.arOf E (oc w (w.2.1 16 c)) = 2 then oc w (w.2.1 22 (b + 1)) else Ob.nil := by
    rw [hn]
    rcases hn12 with q | q
    · rw [List.getD_eq_getElem?_getD, List.getElem?_eq_none (by rw [lsC_len]; omega), if_neg (by omega)]; rfl
    · rw [List.getD_eq_getElem?_getD, lsC_get w _ b n (i := 1) (by omega), show b + ((1 : Nat) : Int) = b + 1 by omega, if_pos (by omega)]; rfl
  rw [g0, g1] at ok bad room
  refine ev_turn gw.1 t1 s9 s4 c0 h17 (fun z => ?_) (fun _ _ _ => ?_)
  · rcases z with z | z | z
    · exact absurd h19 z
    · omega
    · rw [np] at z; cases z
  rw [h18]
  refine pc_baseValue (E := E) gw.1 (fun hb => by have := room hb; omega) f3 (hv b (Int.le_refl _) (by omega)) (fun h2 => hv (b + 1) (by omega) (by omega)) (fun r v gv v29 hor => ?_)
  have kv : EvK c b w v := EvK_M gv
  have vn : ∀ k, k ≠ 29 → v.1 k = w.1 k := fun k hk => gv.2.2.1 k (decide_eq_false hk)
  have vr : ∀ k, 16 ≤ k → k ≤ 22 → v.2.1 k = w.2.1 k := fun k h1 h2 => gv.2.2.2 k (by unfold f8R; exact decide_eq_false (by omega))
  intro y ey
  have ky : EvK c b v y := by rw [ey]; exact EvK_I gv.1 (by decide)
  have yn : ∀ k, k ≠ 9 → y.1 k = v.1 k := fun k hk => by rw [ey]; exact if_neg hk
  have y2 : y.2 = v.2 := by rw [ey]; rfl
  have y18 : y.2.1 18 c = b := by rw [y2, vr 18 (by decide) (by decide)]; exact h18
  refine pc_close (c := c) ky.1.1 (by rw [yn 4 (by decide), vn 4 (by decide)]; exact s4) (fun z kz z4 z5 z22 z6 z7 zn zc => ?_)
  rw [y18] at kz z5 z22
  have kall := (kv.tr ky (Int.le_refl _) (Int.le_refl _)).tr kz (Int.le_refl _) (Int.le_refl _)
  have z9 : z.1 9 = y.1 9 := zn 9 (by decide) (by decide) (by decide) (by decide)
  have zz : ∀ k, 29 ≤ k → z.1 k = v.1 k := fun k hk => by rw [zn k (by omega) (by omega) (by omega) (by omega), yn k (by omega)]
  rcases hor with ⟨hr, h29, hb⟩ | ⟨hr, hb⟩
  · have e9 : z.1 9 = 3 := by rw [z9, ey, hr]; rfl
    refine ev_stop (by rw [e9]; decide) (bad hb z kall.1 e9 (by rw [zz 31 (by decide), vn 31 (by decide)]) (by rw [zz 30 (by decide), vn 30 (by decide)]) (by rw [zz 32 (by decide), vn 32 (by decide)]; exact s32) (by rw [zz 29 (by decide)]; exact h29))
  · have hr1 : r ≠ -1 := by have := hr.1; omega
    have e9 : z.1 9 = 0 := by rw [z9, ey, if_pos hr1]; rfl
    have ez : oc z r = oc v r := by
      have e1 : z.2.2 = v.2.2 := by rw [zc, y2]
      exact oc_same e1 r
    refine ok z (oc v r) hb kall ⟨z4, z5, e9, by rw [zz 32 (by decide), vn 32 (by decide)]; exact s32, by rw [zn 8 (by decide) (by decide) (by decide) (by decide), yn 8 (by decide), vn 8 (by decide)]; exact s8, by rw [zz 31 (by decide), zz 30 (by decide), vn 31 (by decide), vn 30 (by decide)]; exact s31, ?_⟩ (by rw [z6, y2, vr 20 (by decide) (by decide)]) (by rw [z7, y2, vr 21 (by decide) (by decide)]) (by rw [z22]; exact (hr.up ky.1).up kz.1) (by rw [z22]; exact ez)
    rw [zz 29 (by decide)]
    show v.1 29 ≤ B + ((s.2.2 + 1 : Nat) : Int)
    omega
/-- a defined function's terms have values: its body is next -/
theorem evc_fun [DecidableEq Ob] {u0 : iST} {E : Sp.Env} {Q : Int → iST → Prop} (hT0 : CT u0) (hD0 : DOc u0 E) {c t : Int} {w : iST} (c0 : 0 ≤ c) (gw : CG f8En f8Er u0 w) (h9 : w.1 9 = 0) (h4 : w.1 4 = c + 1) (hf : VN w (w.2.1 16 c)) (f16 : 16 < w.2.1 16 c) (h19 : w.2.1 19 c = 0) (h17 : VN w (w.2.1 17 c)) (np : (oc w (w.2.1 17 c)).isPr = false) {D : Sp.Dfn} (hD : E.dfn (oc w (w.2.1 16 c)) = some D) (t1 : t < 1000000)
    (hq : ∀ d z, 0 ≤ d → d < w.1 0 → dfnC w d = D → EvK c (w.1 5) w z → (∀ j, 16 ≤ j → j ≤ 21 → j ≠ 19 → z.2.1 j = w.2.1 j) → z.2.1 19 c ≠ 0 → z.2.1 22 = w.2.1 22 → z.1 6 = d → z.1 7 = w.2.1 18 c → (∀ k, k ≠ 6 → k ≠ 7 → z.1 k = w.1 k) → z.2.2 = w.2.2 → pv_2_evaluated_35 Q (w.2.1 3 d) (t + 1) z) : pv_2_evaluated_35 Q (-1) t w := by
  refine ev_turn gw.1 t1 h9 h4 c0 h17 (fun _ => ?_) (fun _ z => by omega)
  unfold pv_2_goOn
  intro _ _ a ea _
  rw [ea]
  refine ⟨fun _ => ?_, fun z => absurd h19 z⟩
  intro _ _ b eb _
  rw [eb]
  refine pc_isPair gw.1 h17 (fun r hr => ⟨fun z => absurd (hr.t z) (by rw [np]; decide), fun _ => ?_⟩)
  intro _ _ _ y1 e1 _ _ f ef _
  have k1 : EvK c (w.1 5) w y1 := by rw [e1]; exact EvK_A gw.1 (by decide) (fun _ => Int.le_refl _) (fun z => by cases z)
  have ec1 : ∀ k, oc y1 k = oc w k := oc_same (by rw [e1]; rfl)
  have ef' : f = w.2.1 16 c := by rw [ef, e1]; rfl
  rw [ef']
  have hD1 := (hD0.ev hT0 gw).ev gw.1 k1.1
  refine pc_functionOf k1.1.1 hD1 (hf.up k1.1) (fun hn => ?_) (fun d d0 d1 hd1 hdf => ?_)
  · rw [ec1, hD] at hn; cases hn
  intro y2 e2 _ _ g eg _ y3 e3 i ei _
  have ei' : i = d := by rw [ei, e3, e2]; rfl
  rw [ei']
  refine ⟨fun _ => ?_, fun z => absurd (show d ≠ -1 by omega) z⟩
  intro j ej _
  have ej' : j = d := by rw [ej, e3, e2]; rfl
  rw [ej']
  intro _ _ m em _
  have em' : m = w.2.1 3 d := by rw [em, e3, e2, e1]; rfl
  rw [em']
  have k2 : EvK c (w.1 5) y1 y2 := by rw [e2]; exact EvK_I k1.1.1 (by decide)
  have k3 : EvK c (w.1 5) y2 y3 := by rw [e3]; exact EvK_I k2.1.1 (by decide)
  have eg' : g = w.2.1 18 c := by rw [eg, e2, e1]; rfl
  have n0 : y1.1 = w.1 := by rw [e1]; rfl
  rw [n0] at d1
  have hdw := (hD0.ev hT0 gw).2.2 d d0 d1
  have edf : dfnC y1 d = dfnC w d := (hdw.mono gw.1 k1.1 (fun k hk => by rw [e1]; exact if_neg (by omega))).2
  rw [ec1, hD, edf] at hdf
  refine hq d y3 d0 d1 (Option.some.inj hdf).symm ((k1.tr k2 (Int.le_refl _) (Int.le_refl _)).tr k3 (Int.le_refl _) (Int.le_refl _)) (fun j h1 h2 h3 => by rw [e3, e2, e1]; exact if_neg h3) (by rw [e3, e2, e1]; show (if c = c then (1 : Int) else _) ≠ 0; rw [if_pos rfl]; decide) (by rw [e3, e2, e1]; rfl) (by rw [e3, e2]; rfl) (by rw [e3, eg']; rfl) (fun k h1 h2 => by rw [e3, e2, e1]; exact (if_neg h2).trans (if_neg h1)) (by rw [e3, e2, e1]; rfl)
/-- the test of an IF has a value: the term that it chooses is next -/
theorem evc_if [DecidableEq Ob] {Q : Int → iST → Prop} {c b t : Int} {w : iST} (hT : CT w) (c0 : 0 ≤ c) (h9 : w.1 9 = 0) (h4 : w.1 4 = c + 1) (f3 : w.2.1 16 c = 3) (h18 : w.2.1 18 c = b) (h19 : w.2.1 19 c = 0) (h5 : w.1 5 = b + 1) (h17 : VN w (w.2.1 17 c)) {p q : Ob} (e17 : oc w (w.2.1 17 c) = .pr p (.pr q Ob.nil)) (hv : VN w (w.2.1 22 b)) (t1 : t < 1000000)
    (hq : ∀ x z, EvK c b w z → z.1 5 = b → z.2.1 19 c ≠ 0 → (∀ j, 16 ≤ j → j ≤ 22 → j ≠ 19 → z.2.1 j = w.2.1 j) → (∀ k, k ≠ 5 → z.1 k = w.1 k) → z.2.2 = w.2.2 → VN z x → oc z x = (if oc w (w.2.1 22 b) = Ob.nil then q else p) → pv_2_evaluated_35 Q x (t + 1) z) : pv_2_evaluated_35 Q (-1) t w := by
  refine ev_turn hT t1 h9 h4 c0 h17 (fun _ => ?_) (fun _ _ z => by rw [e17] at z; cases z)
  unfold pv_2_goOn
  intro _ _ a ea _
  rw [ea]
  refine ⟨fun _ => ?_, fun z => absurd h19 z⟩
  intro _ _ r er _
  rw [er]
  refine pc_isPair hT h17 (fun r2 hr2 => ⟨fun _ => ?_, fun z => ?_⟩)
  rotate_left
  · have := hr2.f (Decidable.not_not.mp z)
    rw [e17] at this; cases this
  intro _ _ d ed _
  rw [ed]
  refine ⟨fun z => absurd f3 z, fun _ => ?_⟩
  intro e ee _ _ _ f ef _
  rw [ee, ef, h18]
  refine ⟨fun z => by omega, fun _ => ?_⟩
  intro _ _ g eg _ y1 e1 _ _ _ y2 e2 i ei _
  rw [eg] at e1
  have k1 : EvK c b w y1 := by rw [e1]; exact EvK_I hT (by decide)
  have k2 : EvK c b y1 y2 := by rw [e2]; exact EvK_A k1.1.1 (by decide) (fun _ => Int.le_refl _) (fun z => by cases z)
  have kk := k1.tr k2 (Int.le_refl _) (Int.le_refl _)
  have ei' : i = b := by rw [ei, e2, e1]; rfl
  rw [ei']
  have cc : y2.2.2 = w.2.2 := by rw [e2, e1]; rfl
  have ec : ∀ k, oc y2 k = oc w k := oc_same cc
  intro _ _ j ej _
  have ej' : j = w.2.1 22 b := by rw [ej, e2, e1]; rfl
  rw [ej']
  have k0 := oc_nil hT hv
  have h17' := h17.up kk.1
  have fin : ∀ x, VN y2 x → oc y2 x = (if oc w (w.2.1 22 b) = Ob.nil then q else p) → pv_2_evaluated_35 Q x (t + 1) y2 := fun x hx ex => hq x y2 kk (by rw [e2, e1]; rfl) (by rw [e2]; show (if c = c then (1 : Int) else _) ≠ 0; rw [if_pos rfl]; decide) (fun j h1 h2 h3 => by rw [e2, e1]; exact if_neg h3) (fun k hk => by rw [e2, e1]; exact if_neg hk) cc hx ex
  refine ⟨fun z => ?_, fun z => ?_⟩
  · refine pc_right kk.1.1 h17' (fun t2 ht2 et2 => pc_left kk.1.1 ht2 (fun l hl el => fin l hl ?_))
    rw [el, et2, ec, e17, if_pos (k0.mp z)]; rfl
  · refine pc_left kk.1.1 h17' (fun l hl el => fin l hl ?_)
    rw [el, ec, e17, if_neg (fun q9 => z (k0.mpr q9))]; rfl
