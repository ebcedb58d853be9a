-- deps: 740
/-! the class: a term begun; rewriting -/
section
variable {α : Type} {u0 v0 v : iST} {E : Sp.Env} {B x g row c t T : Int} {R : EStateM.Result Unit Sp.Wk α} {Q : Int → iST → Prop} {K : Ob → Sp.M α} {d : Nat} {ctx : List Ob}
theorem st_start [DecidableEq Ob] (hM : FmJ u0 E B R Q d c x g row v0 T K) (hS : StJ E c x g row ctx v0 v) (hs : v.2.1 51 (17 * c + 3) = 0) (hP : PdK B f8Jn f8Jr u0 v R (Sp.bd (Sp.rwStep E (Sp.rw E d) ctx (oc v x) (decide (g = 1))) (fun y => K (Sp.fin (decide (g = 1)) y)))) (ht : t + T + 20 ≤ 24 * (v.1 31 - u0.1 31)) : pv_6_rewritten_20 Q t v := by
  have hC := hM.1
  have T0 := hM.2.2.2.2.2.2
  have hT := hS.ct
  have nx := hS.2.2.2.1
  have hE := hC.env hP
  have hK' := nf_mono hM.2.2.2.1 (decide (g = 1))
  have qi : Ob.implies ≠ Ob.quote := Ob.sym_ne (by decide)
  have qn : Ob.not ≠ Ob.quote := Ob.sym_ne (by decide)
  refine hd_0 hS.2.1.1 hM.2.2.2.2.1 hS.2.2.1 (hC.turn hP hS.2.2.1 (by omega)) hs ?_
  unfold pv_6_start
  unfold Sp.rwStep at hP
  intro _ _ n1 en1 _
  rw [en1, hS.2.1.2.1]
  refine pc_isConstant hT nx.1 (fun r1 hr1 => ⟨fun z1 => ?_, fun z1 => ?_⟩)
  rotate_left
  · rw [if_pos (hr1.t z1)] at hP
    exact fr_fin (t := t + 1) hM hS.1 hS.2.1 nx.d hP.retd (by omega) (fun w h _ => h)
  rw [if_neg (by rw [hr1.f z1]; decide)] at hP
  refine pc_isCall hT nx.1 (fun r2 hr2 => ⟨fun z2 => ?_, fun z2 => ?_⟩)
  rotate_left
  · rw [if_pos (by rw [hr2.f (Decidable.not_not.mp z2)]; rfl)] at hP
    intro _ _ n19 en19 _ _ _ n20 en20 _
    rw [en19, hS.2.1.2.2.1, en20, hS.2.1.2.2.2.1]
    refine pc_lookedUp hT nx hS.2.2.2.2.1 (fun r nr er => ?_)
    have hP := hP.retd
    rw [← er] at hP
    exact fr_fin (t := t + 1) hM hS.1 hS.2.1 nr.d hP (by omega) (fun w h _ => h)
  have hc := hr2.t z2
  rw [if_neg (by rw [hc]; decide)] at hP
  refine pc_isCallK 3 hT nx.1 (by decide) (by decide) (o := Ob.ifS) rfl (fun r3 hr3 => ⟨fun z3 => ?_, fun z3 => ?_⟩)
  rotate_left
  · have hif := hr3.t z3
    rw [if_pos (lft_of hif), bd_assoc] at hP
    intro _ _ y1 e1
    obtain ⟨k1, m1, c1, q1r, s1, q1⟩ := fr_set hT e1 (by decide)
    have hS1 := hS.set e1 (by decide)
    have hP1 := hP.same k1.1 (fun k _ _ => by rw [m1])
    obtain ⟨nx1, ex1⟩ := nx.up hT k1.1
    refine pc_it k1.1.1 nx1 (by rw [ex1]; exact hif) ifq' (arOf_ifS E) (by decide) (by decide) (fun b nb eb => ?_)
    have eb : oc y1 b = (oc v x).item 1 := by rw [eb, ex1]; rfl
    rw [← eb] at hP1
    intro _ _ n17 en17 _
    rw [en17, hS1.2.1.2.2.2.1]
    refine fr_ask (t := t + 1) (k := 1) (g' := 1) hM hS1 nb hS1.2.2.2.2.1 (Or.inr rfl) (fun a => Mono.bd (rwIf_mono (fun c o t => rw_mono _ _ _ _)) hK') hP1 (by decide) (by rw [m1]; omega) (fun w h _ => h) (fun w a t' hSw kw na w24 hPw ht' => ?_)
    obtain ⟨nxw, exw⟩ := nx.up hT (k1.1.tr kw.1)
    exact st_test hM hSw (by rw [kw.2.1 _ (by omega)]; exact q1) w24 na (by rw [exw]; exact hif) (by rw [exw]; exact hPw) (by omega)
  have nif : Ob.lft (oc v x) ≠ Ob.ifS := fun q => by
    have := hr3.f z3
    rw [call_lft hc, decide_eq_true q] at this
    cases this
  rw [if_neg nif] at hP
  refine pc_isCallK 6 hT nx.1 (by decide) (by decide) (o := Ob.implies) rfl (fun r4 hr4 => ⟨fun z4 => ?_, fun z4 => ?_⟩)
  rotate_left
  · have him := hr4.t z4
    rw [if_pos (lft_of him)] at hP
    simp only [bd_assoc] at hP
    obtain ⟨n0, e0⟩ := NdC.known hT E 0 (o := Ob.nil) (by decide) (by decide) rfl rfl
    obtain ⟨n1', e1'⟩ := NdC.known hT E 1 (o := Ob.t) (by decide) (by decide) rfl rfl
    refine pc_it hT nx him qi (arOf_implies E) (by decide) (by decide) (fun b nb eb => ?_)
    have eb : oc v b = (oc v x).item 2 := eb
    have hP' : PdK B f8Jn f8Jr u0 v R (Sp.bd (Sp.mk3 Ob.ifS (oc v b) (oc v 1) (oc v 0)) (fun i => Sp.bd (Sp.mk3 Ob.ifS (Ob.item (oc v x) 1) i Ob.t) (fun w => Sp.bd (Sp.rw E d ctx w (decide (g = 1))) (fun y => K (Sp.fin (decide (g = 1)) y))))) := by rw [eb, e0, e1']; exact hP
    refine pc_mk3 hP' f8B_J f8W_J hC.2.2.1 (fun i => Mono.bd Mono.big (end_mono hM.2.2.2.1)) (kn_c hT 3 (o := Ob.ifS) (by decide) (by decide) rfl) (Ob.sym_isSym _) ifq' (arOf_ifS E) nb.d n1'.d n0.d (fun o1 w1 gw1 wd1 nt1 hP1 _ => ?_)
    obtain ⟨nx1, ex1⟩ := nx.up hT gw1
    obtain ⟨n1w, e1w⟩ := NdC.known gw1.1 E 1 (o := Ob.t) (by decide) (by decide) rfl rfl
    refine pc_it gw1.1 nx1 (by rw [ex1]; exact him) qi (arOf_implies E) (by decide) (by decide) (fun b1 nb1 eb1 => ?_)
    have eb1 : oc w1 b1 = (oc v x).item 1 := by rw [eb1, ex1]; rfl
    have hP1' : PdK B f8Jn f8Jr u0 w1 R (Sp.bd (Sp.mk3 Ob.ifS (oc w1 b1) (oc w1 o1) (oc w1 1)) (fun w => Sp.bd (Sp.rw E d ctx w (decide (g = 1))) (fun y => K (Sp.fin (decide (g = 1)) y)))) := by rw [eb1, e1w]; exact hP1
    refine pc_mk3 hP1' f8B_J f8W_J hC.2.2.1 (end_mono hM.2.2.2.1) (kn_c gw1.1 3 (o := Ob.ifS) (by decide) (by decide) rfl) (Ob.sym_isSym _) ifq' (arOf_ifS E) nb1.d nt1 n1w.d (fun o2 w2 gw2 wd2 nt2 hP2 _ => ?_)
    exact red_end hM hS (gw1.tr gw2) nt2 hP2 (by omega)
  have nim : Ob.lft (oc v x) ≠ Ob.implies := fun q => by
    have := hr4.f z4
    rw [call_lft hc, decide_eq_true q] at this
    cases this
  rw [if_neg nim] at hP
  refine pc_isCallK 16 hT nx.1 (by decide) (by decide) (o := Ob.not) rfl (fun r5 hr5 => ⟨fun z5 => ?_, fun z5 => ?_⟩)
  rotate_left
  · have hno := hr5.t z5
    rw [if_pos (lft_of hno), bd_assoc] at hP
    intro _ _ y1 e1
    obtain ⟨k1, m1, c1, q1r, s1, q1⟩ := fr_set hT e1 (by decide)
    have hS1 := hS.set e1 (by decide)
    have hP1 := hP.same k1.1 (fun k _ _ => by rw [m1])
    obtain ⟨nx1, ex1⟩ := nx.up hT k1.1
    refine pc_it k1.1.1 nx1 (by rw [ex1]; exact hno) qn (arOf_not E) (by decide) (by decide) (fun b nb eb => ?_)
    have eb : oc y1 b = (oc v x).item 1 := by rw [eb, ex1]; rfl
    rw [← eb] at hP1
    intro _ _ n17 en17 _
    rw [en17, hS1.2.1.2.2.2.1]
    refine fr_ask (t := t + 1) (k := 0) (g' := 1) hM hS1 nb hS1.2.2.2.2.1 (Or.inr rfl) (fun a => Mono.bd rwNot_mono hK') hP1 (by decide) (by rw [m1]; omega) (fun w h _ => h) (fun w a t' hSw kw na w24 hPw ht' => ?_)
    exact st_neg hM hSw (by rw [kw.2.1 _ (by omega)]; exact q1) w24 na hPw (by omega)
  have nno : Ob.lft (oc v x) ≠ Ob.not := fun q => by
    have := hr5.f z5
    rw [call_lft hc, decide_eq_true q] at this
    cases this
  rw [if_neg nno] at hP
  simp only [bd_assoc] at hP
  obtain ⟨l, a1, a2, a3, a4, a5, a6, a7⟩ := nx.args hc
  refine pc_right hT nx.1 (fun rr vrr err => ?_)
  intro _ _ y1 e1 _ _ y2 e2 _ _ y3 e3 _
  obtain ⟨k1, m1, c1, q1r, s1, q1⟩ := fr_set hT e1 (by decide)
  obtain ⟨k2, m2, c2, q2r, s2, q2⟩ := fr_set k1.1.1 e2 (by decide)
  obtain ⟨k3, m3, c3, q3r, s3, q3⟩ := fr_set k2.1.1 e3 (by decide)
  have g3 : CG f8Jn f8Jr v y3 := (k1.1.tr k2.1).tr k3.1
  obtain ⟨nx3, ex3⟩ := nx.up hT g3
  have h6 : y3.2.1 51 (17 * c + 6) = rr := by rw [s3 _ (by omega), s2 _ (by omega)]; exact q1
  have l6 : l.length ≤ 6 := by
    have := arOf6 hE.1 (Ob.lft (oc v x))
    omega
  refine st_gather l [] (t + 1) y3 hM (((hS.set e1 (by decide)).set e2 (by decide)).set e3 (by decide)) q3 (by rw [s3 _ (by omega)]; exact q2) (by rw [h6]; exact vrr.up g3) (by rw [h6, g3.oc hT vrr.1 vrr.2, err, a1]) (by simpa using l6) a4 (fun j hj => absurd hj (Nat.not_lt_zero _)) (fun q => absurd rfl q) (by rw [ex3]; exact hc) (by rw [ex3, a3]; simp) (by rw [ex3]; exact nif) ?_ (by rw [m3, m2, m1]; omega)
  rw [ex3]
  rw [a2] at hP
  exact ((hP.same k1.1 (fun k _ _ => by rw [m1])).same k2.1 (fun k _ _ => by rw [m2])).same k3.1 (fun k _ _ => by rw [m3])
theorem rj_all [DecidableEq Ob] (hC : CtJ u0 E B R Q) : ∀ d : Nat, RjG u0 E B R Q d := by
  intro d
  induction d with
  | zero =>
    intro ctx x g row c t T v K L hL hP h32 hK h23 c0 hd hg nx cx T0 ht1 ht2 h26 hO
    exact pc_ask hC hL hP h32 h23 c0 hd h26 (fun d' w ed => by cases ed)
  | succ d ih =>
    intro ctx x g row c t T v K L hL hP h32 hK h23 c0 hd hg nx cx T0 ht1 ht2 h26 hO
    refine pc_ask hC hL hP h32 h23 c0 hd h26 (fun d' w ed kw w32 hF h3 w31 hPw => ?_)
    have ed : d' = d := by omega
    rw [ed] at hPw
    obtain ⟨nxw, exw⟩ := nx.up hP.1.1 kw.1
    refine st_start (v0 := v) (T := T) (K := K) ⟨hC, ih, hO, hK, c0, by omega, T0⟩ ⟨kw, hF, w32, nxw, cx.up hP.1.1 kw.1, hg⟩ h3 (by rw [exw]; exact hPw) (by omega)
/-- REWRITING -/
theorem pc_rewritten [DecidableEq Ob] {n r : Nat → Bool} {Q : Int → iST → Prop} (hP : PdK B n r u0 v R (Sp.bd (Sp.rw E 60 ctx (oc v x) (decide (g = 1))) K)) (hn : ∀ k, n k = false → f8Jn k = false) (hr : ∀ k, r k = false → f8Jr k = false) (hE : EnvC v E) (fit : Fit B R) (hK : ∀ a, Mono (K a)) (h30 : v.1 30 ≤ 1000) (h32 : v.1 32 = 0) (hg : g = 0 ∨ g = 1) (nx : NdC v E x) (cx : CxC v E row ctx) (h26 : v.1 26 ≤ v.1 31)
    (hq : ∀ a w, CG f8Jn f8Jr v w → NdC w E a → w.1 32 = 0 → PdK B n r u0 w R (K (oc w a)) → NtK v w → NtO x g row (v.1 26) a w → Q a w) (hbad : ∀ w, CG f8Jn f8Jr v w → w.1 32 ≠ 0 → (∃ s, Dd w s ∧ R = .error () s) → Q (-1) w) : pv_6_rewritten x g row Q v := by
  have hT := hP.1.1
  obtain ⟨s, hl, eR⟩ := hP.live h32
  have hP0 : PdK B f8Jn f8Jr v v R (Sp.bd (Sp.rw E 60 ctx (oc v x) (decide (g = 1))) K) := ⟨CG.rf hT, Or.inl ⟨s, hl, eR⟩⟩
  have h31 : 0 ≤ v.1 31 := hl.2.1.1
  unfold pv_6_rewritten
  intro y1 e1 y2 e2
  have g1 : CG f8Jn f8Jr v y1 := by rw [e1]; exact CG_I hT (by decide) (by decide)
  have g2 : CG f8Jn f8Jr y1 y2 := by rw [e2]; exact CG_I g1.1 (by decide) (by decide)
  have gg := g1.tr g2
  have yn : ∀ k, k ≠ 23 → k ≠ 24 → y2.1 k = v.1 k := fun k h1 h2 => by rw [e2, e1]; show (if k = 24 then _ else if k = 23 then _ else v.1 k) = _; rw [if_neg h2, if_neg h1]
  have y23 : y2.1 23 = 0 := by rw [e2, e1]; rfl
  obtain ⟨nx2, ex2⟩ := nx.up hT gg
  have hC : CtJ v E B R Q := ⟨hT, hE, fit, ⟨h31, h30⟩, fun w s gw hd e => hbad w gw hd.1 ⟨s, hd, e⟩⟩
  have up : ∀ {w : iST} {m : Sp.M α}, PdK B f8Jn f8Jr v w R m → PdK B n r u0 w R m := fun {w m} h => ⟨hP.1.tr (h.1.mono hn hr), h.2⟩
  have hP2 := hP0.same gg (fun k h1 h2 => yn k (by omega) (by omega))
  rw [← ex2] at hP2
  refine rj_all hC 60 ctx x g row 0 0 0 y2 K _ (fun w h => h) hP2 (by rw [yn 32 (by decide) (by decide)]; exact h32) hK y23 (Int.le_refl _) (by decide) hg nx2 (cx.up hT gg) (Int.le_refl _) (by rw [yn 31 (by decide) (by decide)]; omega) (by rw [yn 31 (by decide) (by decide)]; omega) (by rw [yn 26 (by decide) (by decide), yn 31 (by decide) (by decide)]; exact h26) ?_
  intro w a t kw na w24 w23 w32 hPw ht hno
  have y26 : y2.1 26 = v.1 26 := yn 26 (by decide) (by decide)
  have kv : NtK v w := (NtK.of y26 (Int.le_of_eq (yn 31 (by decide) (by decide)).symm) (by rw [e2, e1]; rfl)).tr kw.2.2
  rw [y26] at hno
  have fin : pv_6_rewritten_405 Q w := by
    unfold pv_6_rewritten_405
    intro b eb _
    rw [eb]
    refine ⟨fun z => absurd w32 z, fun _ => ?_⟩
    intro e ee _
    rw [ee, w24]
    exact hq a w (gg.tr kw.1) na w32 (up hPw) kv hno
  refine fo_v_6_rewritten_20 ?_
  unfold pv_6_rewritten_20b
  refine ⟨fun _ => fin, fun _ => ?_⟩
  intro b eb _
  rw [eb, w23]
  exact ⟨fun _ => fin, fun z => absurd (Int.le_refl _) z⟩
end
