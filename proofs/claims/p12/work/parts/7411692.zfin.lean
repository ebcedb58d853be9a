-- deps: 79998691
/-! the replay, the class: terms ended and asked; rewriting with its notes -/
theorem pc_fin58R [DecidableEq Ob] {B : Sz.Bx} {b c : Int} {L : iST → Prop} {v : iST} (hT : CT v) (hq : ∀ w, CG (f8Zz B) f8Jr v w → w.1 24 = b → w.2.1 51 = v.2.1 51 → w.2.2 = v.2.2 → (∀ k, k ≠ 24 → w.1 k = v.1 k) → (v.1 27 ≠ 0 → w.2.1 52 = v.2.1 52) → (v.1 27 = 0 → v.2.1 51 (17 * c + 4) < 1000 → ∀ i, w.2.1 52 i = if i = 5 * v.2.1 51 (17 * c + 4) + 4 then v.1 26 else if i = 5 * v.2.1 51 (17 * c + 4) + 3 then b else v.2.1 52 i) → L w) : pv_6_finish_58 L c b v := by
  unfold pv_6_finish_58
  intro y1 e1
  have g1 : CG (f8Zz B) f8Jr v y1 := by rw [e1]; exact CG_I hT (by decide) (f8Zn_t (by decide))
  have n1 : ∀ k, k ≠ 24 → y1.1 k = v.1 k := fun k hk => by rw [e1]; exact if_neg hk
  have y124 : y1.1 24 = b := by rw [e1]; rfl
  have y12 : y1.2 = v.2 := by rw [e1]; rfl
  intro n7 en7 _
  rw [en7, n1 27 (by decide)]
  refine ⟨fun q => hq y1 g1 y124 (by rw [y12]) (by rw [y12]) n1 (fun _ => by rw [y12]) (fun z => absurd z q), fun q => ?_⟩
  have h27 := Decidable.not_not.mp q
  intro _ _ n8 en8 _
  have e8 : n8 = v.2.1 51 (17 * c + 4) := by rw [en8, y12]
  rw [e8]
  refine ⟨fun q => hq y1 g1 y124 (by rw [y12]) (by rw [y12]) n1 (fun z => absurd h27 z) (fun _ z => by omega), fun _ => ?_⟩
  intro _ _ n9 en9 _ _ _ n12 en12 _ _ _ y2 e2 _ _ n13 en13 _ _ _ n16 en16 _ _ _ y3 e3
  have g2 : CG (f8Zz B) f8Jr y1 y2 := by rw [e2]; exact CG_A g1.1 (by omega) (by decide)
  have g3 : CG (f8Zz B) f8Jr y2 y3 := by rw [e3]; exact CG_A g2.1 (by omega) (by decide)
  have z51 : y3.2.1 51 = y1.2.1 51 := by rw [e3, e2]; rfl
  have zn : y3.1 = y1.1 := by rw [e3, e2]; rfl
  have zc : y3.2.2 = y1.2.2 := by rw [e3, e2]; rfl
  have e9 : n9 = v.2.1 51 (17 * c + 4) := by rw [en9, y12]
  have e13 : n13 = v.2.1 51 (17 * c + 4) := by rw [en13, show y2.2.1 51 = y1.2.1 51 by rw [e2]; rfl, y12]
  have e12 : n12 = b := by rw [en12]; exact y124
  have e16 : n16 = v.1 26 := by rw [en16, show y2.1 26 = y1.1 26 by rw [e2]; rfl]; exact n1 26 (by decide)
  refine hq y3 (g1.tr (g2.tr g3)) (by rw [zn]; exact y124) (by rw [z51, y12]) (by rw [zc, y12]) (fun k hk => by rw [zn]; exact n1 k hk) (fun z => absurd h27 z) (fun _ _ i => ?_)
  rw [e3]
  show (if i = 5 * n13 + 4 then n16 else y2.2.1 52 i) = _
  rw [e2]
  show (if i = 5 * n13 + 4 then n16 else if i = 5 * n9 + 3 then n12 else y1.2.1 52 i) = _
  rw [e13, e16, e9, e12, y12]
theorem pc_finR [DecidableEq Ob] {B : Sz.Bx} {a c g : Int} {L : iST → Prop} {v : iST} {E : Sp.Env} (hT : CT v) (h23 : v.1 23 = c + 1) (h1 : v.2.1 51 (17 * c + 1) = g) (na : NdD v E a)
    (hq : ∀ b w, CG (f8Zz B) f8Jr v w → w.1 23 = c → w.1 24 = b → w.2.1 51 = v.2.1 51 → w.2.2 = v.2.2 → (∀ k, k ≠ 23 → k ≠ 24 → w.1 k = v.1 k) → (v.1 32 = 0 → NdC v E b ∧ oc v b = Sp.fin (decide (g = 1)) (oc v a)) → (v.1 27 ≠ 0 → w.2.1 52 = v.2.1 52) → (v.1 27 = 0 → v.2.1 51 (17 * c + 4) < 1000 → ∀ i, w.2.1 52 i = if i = 5 * v.2.1 51 (17 * c + 4) + 4 then v.1 26 else if i = 5 * v.2.1 51 (17 * c + 4) + 3 then b else v.2.1 52 i) → L w) : pv_6_finish a L v := by
  unfold pv_6_finish
  intro n1 en1 _ _ y1 e1
  have e1 : y1 = iI v 23 c := by rw [e1, en1, h23, show c + 1 - 1 = c by omega]
  have g1 : CG (f8Zz B) f8Jr v y1 := by rw [e1]; exact CG_I hT (by decide) (f8Zn_t (by decide))
  have yn : ∀ k, k ≠ 23 → y1.1 k = v.1 k := fun k hk => by rw [e1]; exact if_neg hk
  have y2 : y1.2 = v.2 := by rw [e1]; rfl
  have y23 : y1.1 23 = c := by rw [e1]; rfl
  have ec : ∀ k, oc y1 k = oc v k := oc_same (by rw [y2])
  -- what came out
  have out : ∀ b, (v.1 32 = 0 → NdC v E b ∧ oc v b = Sp.fin (decide (g = 1)) (oc v a)) → pv_6_finish_58 L c b y1 := by
    intro b hb
    refine pc_fin58R (B := B) g1.1 (fun w gw w24 w51 wc wn w52 w52' => hq b w (g1.tr gw) (by rw [wn 23 (by decide)]; exact y23) w24 (by rw [w51, y2]) (by rw [wc, y2]) (fun k h1 h2 => by rw [wn k h2, yn k h1]) hb (fun z => by rw [w52 (by rw [yn 27 (by decide)]; exact z), y2]) (fun z z2 i => ?_))
    have := w52' (by rw [yn 27 (by decide)]; exact z) (by rw [y2]; exact z2) i
    rw [y2, yn 26 (by decide)] at this
    exact this
  have o0 : (v.1 32 = 0 → Sp.fin (decide (g = 1)) (oc v a) = oc v a) → pv_6_finish_47 L a c 0 y1 := by
    intro hb
    unfold pv_6_finish_47
    exact ⟨fun _ => out a (fun h => ⟨na.2.2 h, (hb h).symm⟩), fun z => absurd rfl z⟩
  intro n3 en3 _
  rw [en3, y23]
  intro _ _ _ _ n6 en6 _
  rw [en6, y2, h1]
  refine ⟨fun hg => ?_, fun hg => ?_⟩
  · unfold pv_6_finish_46
    refine o0 (fun _ => ?_)
    unfold Sp.fin
    rw [decide_eq_false hg]; rfl
  have hg := Decidable.not_not.mp hg
  by_cases h32 : v.1 32 = 0
  · have nA := na.2.2 h32
    refine pc_isConstant g1.1 (nA.1.up g1) (fun r hr => ⟨fun z => ?_, fun z => ⟨fun z0 => ?_, fun z0 => ?_⟩⟩)
    · unfold pv_6_finish_46
      refine o0 (fun _ => ?_)
      have := hr.f z
      rw [ec] at this
      unfold Sp.fin
      rw [this, Bool.and_false]; rfl
    · unfold pv_6_finish_46
      refine o0 (fun _ => ?_)
      have e0 : oc v a = Ob.nil := (oc_nil hT nA.1).mp z0
      unfold Sp.fin
      rw [e0, decide_eq_false (show ¬ Ob.nil ≠ Ob.nil from fun q => q rfl), Bool.and_false]; rfl
    · unfold pv_6_finish_47
      refine ⟨(fun q => by cases q), fun _ => out 1 (fun _ => ?_)⟩
      obtain ⟨n1', e1'⟩ := NdC.known hT E 1 (o := Ob.t) (by decide) (by decide) rfl rfl
      refine ⟨n1', ?_⟩
      have hc := hr.t z
      rw [ec] at hc
      unfold Sp.fin
      rw [e1', hc, decide_eq_true hg, decide_eq_true (show oc v a ≠ Ob.nil from fun q => z0 ((oc_nil hT nA.1).mpr q))]; rfl
  · have o1 : ∀ y, pv_6_finish_47 L a c y y1 := fun y => by
      unfold pv_6_finish_47
      exact ⟨fun _ => out a (fun h => absurd h h32), fun _ => out 1 (fun h => absurd h h32)⟩
    refine pc_isConstantA g1.1 ⟨na.1, by have := na.2.1; have := g1.le; omega⟩ (fun r => ⟨fun _ => ?_, fun _ => ⟨fun _ => ?_, fun _ => o1 1⟩⟩) <;> (unfold pv_6_finish_46; exact o1 0)
/-- the frame's own note, behind it what was noted within -/
def Kn [DecidableEq Ob] {α : Type} (K : Ob → Sz.M α) (ctx : List Ob) (o : Ob) (tr : Bool) (t0 : List Sz.Nt) : Ob → Sz.M α := fun y s => K (Sp.fin tr y) (s.1, s.2.1, t0 ++ (Sz.row ctx, o, tr, Sp.fin tr y, s.2.2.length) :: s.2.2)
theorem Kn_mono [DecidableEq Ob] {α : Type} {K : Ob → Sz.M α} {ctx : List Ob} {o : Ob} {tr : Bool} {t0 : List Sz.Nt} (hK : ∀ a, Mono_z (K a)) : ∀ a, Mono_z (Kn K ctx o tr t0 a) := fun a s => hK (Sp.fin tr a) (s.1, s.2.1, t0 ++ (Sz.row ctx, o, tr, Sp.fin tr a, s.2.2.length) :: s.2.2)
theorem rw_Kn [DecidableEq Ob] {α : Type} {E : Sp.Env} {d : Nat} {ctx : List Ob} {o : Ob} {tr : Bool} {K : Ob → Sz.M α} {s : Sz.Wk} (h : s.1 ≠ 0) : Sp.bd (Sz.rw E (d + 1) ctx o tr) K s = Sp.bd (Sz.rwStep E (Sz.rw E d) ctx o tr) (Kn K ctx o tr s.2.2) (s.1 - 1, s.2.1, []) := by
  have e0 : Sz.rw E (d + 1) ctx o tr s = Sz.asked ctx o tr (Sz.rwStep E (Sz.rw E d) ctx o tr) (s.1 - 1, s.2) := by
    show Sp.bd Sz.tick (fun _ => Sz.asked ctx o tr (Sz.rwStep E (Sz.rw E d) ctx o tr)) s = _
    rw [bind_ok (ztick_ok h)]
  have e1 : Sz.asked ctx o tr (Sz.rwStep E (Sz.rw E d) ctx o tr) (s.1 - 1, s.2) = (match Sz.rwStep E (Sz.rw E d) ctx o tr (s.1 - 1, s.2.1, []) with | .ok v s' => EStateM.Result.ok (Sp.fin tr v) (s'.1, s'.2.1, s.2.2 ++ (Sz.row ctx, o, tr, Sp.fin tr v, s'.2.2.length) :: s'.2.2) | .error e s' => .error e s') := rfl
  cases q : Sz.rwStep E (Sz.rw E d) ctx o tr (s.1 - 1, s.2.1, []) with
  | ok a s1 =>
    rw [q] at e1
    rw [bind_ok (e0.trans e1), bind_ok q]
    rfl
  | error x s1 =>
    rw [q] at e1
    rw [bind_err (e0.trans e1), bind_err q]
theorem rw_Kn0 [DecidableEq Ob] {α : Type} {E : Sp.Env} {d : Nat} {ctx : List Ob} {o : Ob} {tr : Bool} {K : Ob → Sz.M α} {s : Sz.Wk} (h : s.1 = 0) : Sp.bd (Sz.rw E (d + 1) ctx o tr) K s = .error () s := by
  refine bind_err ?_
  show Sp.bd Sz.tick (fun _ => Sz.asked ctx o tr (Sz.rwStep E (Sz.rw E d) ctx o tr)) s = _
  exact bind_err (ztick_err h)
section
variable {α : Type} {δ : Nat} {u0 : iST} {E : Sp.Env} {b0 b b' : Int} {lo : Nat} {X : (Ob → Prop) × Int} {R : EStateM.Result Unit Sz.Wk α} {Q : Int → iST → Prop}
theorem Rm.sh [DecidableEq Ob] {v : iST} {c : Sz.Co} (h : Rm (b0, some b, E, lo, X) v c) : Rm (b0, some b', E, lo, X) v c := ⟨h.1, fun _ => h.2.1 (fun z => by cases z), fun z => by cases z⟩
theorem FitC.sh [DecidableEq Ob] {c : Sz.Co} (h : FitC (b0, some b, E, lo, X) c) : FitC (b0, some b', E, lo, X) c := ⟨fun _ => h.1 (fun z => by cases z), fun z => by cases z⟩
theorem Fit_z.sh [DecidableEq Ob] (h : Fit_z (b0, some b, E, lo, X) R) : Fit_z (b0, some b', E, lo, X) R := by
  refine ⟨FitC.sh h.1, ?_⟩
  have h2 := h.2
  cases R with
  | ok a s => exact h2
  | error e s =>
    have h2 : lo = 0 ∧ (some b : Option Int) ≠ none := h2
    exact ⟨h2.1, fun z => by cases z⟩
theorem CG.sh [DecidableEq Ob] {r : Nat → Bool} {u v : iST} (h : CG (f8Zz (b0, some b, E, lo, X)) r u v) : CG (f8Zz (b0, some b', E, lo, X)) r u v := h
theorem CtJ_z.sh [DecidableEq Ob] (h : CtJ_z u0 E (b0, some b, E, lo, X) R Q) : CtJ_z u0 E (b0, some b', E, lo, X) R Q := by
  obtain ⟨h1, h2, h3, ⟨h4, h5, h6, h7, h8⟩, h9⟩ := h
  exact ⟨h1, h2, h3.sh, ⟨rfl, h5, h6, h7, fun _ => h8 (fun z => by cases z)⟩, fun w s g d => h9 w s g ⟨d.1, d.2.1, fun _ => d.2.2 (fun z => by cases z)⟩⟩
theorem NzL.nil [DecidableEq Ob] {v : iST} {a : Int} : NzL E v a [] := fun i hi => absurd hi (Nat.not_lt_zero _)
theorem NzL.app [DecidableEq Ob] {v : iST} {a : Int} {t1 t2 : List Sz.Nt} (h : NzL E v a t1) (g : NzL E v (a + (t1.length : Int)) t2) : NzL E v a (t1 ++ t2) := fun i hi => by
  rw [List.length_append] at hi
  by_cases c : i < t1.length
  · obtain ⟨p, q⟩ := h i c
    exact ⟨p, by rw [List.getElem?_append_left c]; exact q⟩
  · obtain ⟨p, q⟩ := g (i - t1.length) (by omega)
    have e : a + (t1.length : Int) + ((i - t1.length : Nat) : Int) = a + (i : Int) := by omega
    rw [e] at p q
    exact ⟨p, by rw [List.getElem?_append_right (by omega)]; exact q⟩
theorem NzL.cons [DecidableEq Ob] {v : iST} {a : Int} {n : Sz.Nt} {t : List Sz.Nt} (h : NzV E v a) (e : n = ntC v a) (g : NzL E v (a + 1) t) : NzL E v a (n :: t) := fun i hi => by
  cases i with
  | zero =>
    have e0 : a + ((0 : Nat) : Int) = a := by omega
    rw [e0]
    exact ⟨h, by rw [e]; rfl⟩
  | succ i =>
    obtain ⟨p, q⟩ := g i (by rw [List.length_cons] at hi; omega)
    have e1 : a + 1 + (i : Int) = a + ((i + 1 : Nat) : Int) := by omega
    rw [e1] at p q
    exact ⟨p, by rw [List.getElem?_cons_succ]; exact q⟩
/-- a term is asked, with its note -/
theorem pc_ask_z [DecidableEq Ob] {v : iST} {x g row c t : Int} {L : iST → Prop} {K : Ob → Sz.M α} {d : Nat} {ctx : List Ob} {o : Ob} {tr : Bool} (hC : CtJ_z u0 E (b0, some b, E, lo, X) R Q) (hL : ∀ w, pv_6_rewritten_20 Q t w → L w) (hP : PdK_z (b0, some b, E, lo, X) δ (f8Zz (b0, some b, E, lo, X)) f8Jr u0 v R (Sp.bd (Sz.rw E d ctx o tr) K)) (hK : ∀ a, Mono_z (K a)) (h32 : v.1 32 = 0) (h23 : v.1 23 = c) (c0 : 0 ≤ c) (hd : c + (d : Int) = 60)
    (hq : ∀ d' w t0, d = d' + 1 → RjK_z (b0, some b, E, lo, X) c v w → w.1 32 = 0 → FrJ_z (b0, some (v.1 26 + 1), E, lo, X) c x g row w → w.2.1 51 (17 * c + 3) = 0 → w.1 31 = v.1 31 + 1 → w.1 26 = v.1 26 + 1 → (w.2.1 52 (5 * v.1 26 + 0) = x ∧ w.2.1 52 (5 * v.1 26 + 1) = g ∧ w.2.1 52 (5 * v.1 26 + 2) = row) → NzM (b0, some b, E, lo, X) v t0 → PdK_z (b0, some (v.1 26 + 1), E, lo, X) 0 (f8Zz (b0, some (v.1 26 + 1), E, lo, X)) f8Jr u0 w R (Sp.bd (Sz.rwStep E (Sz.rw E d') ctx o tr) (Kn K ctx o tr t0)) → pv_6_rewritten_20 Q t w) : pv_6_ask x g row L v := by
  have hT := hP.1.1
  have h27 : v.1 27 = 0 := by rw [hP.1.2.2.1 27 rfl]; exact hC.2.2.2.1.2.1
  obtain ⟨s, hl, eR⟩ := hP.live h32
  obtain ⟨nm1, nm2, nm3, nm4⟩ := hl.2.2.2.1
  have nm1 : 0 ≤ b := nm1
  have nm2 : b + (s.2.2.length : Int) = v.1 26 ∧ v.1 26 ≤ 1000 := nm2
  have nm3 : v.1 26 ≤ v.1 31 := nm3.1 (fun z => by cases z)
  unfold pv_6_ask
  intro a ea _
  rw [ea]
  refine ⟨fun _ => ?_, fun z => absurd h27 z⟩
  unfold pv_6_ask_44
  intro bb eb _
  rw [eb, h23]
  refine ⟨fun hlt => ?_, fun hge => ?_⟩
  rotate_left
  · have hd0 : d = 0 := by omega
    subst hd0
    refine pc_blame hT (by decide) (fun w gw w32 => hL w (rj_dead_z (δ := 0) hC (m := Sz.fail) ⟨hP.1.tr (gw.mono f8T_Z f80_any), Or.inr ⟨s, ⟨w32, hl.2.1.cg gw (by decide) (by decide) rfl, fun q => by have h1 := hl.2.2.1.2.1 q; have h2 := gw.2.2.1 29 (by decide); omega⟩, by rw [eR]; rfl⟩⟩ w32))
  obtain ⟨d', hd'⟩ : ∃ d', d = d' + 1 := ⟨d - 1, by omega⟩
  subst hd'
  intro e ee _
  rw [ee]
  refine ⟨fun z => absurd h27 z, fun _ => ?_⟩
  refine pc_stepS (s := (s.1, 0)) hT hl.2.1 (fun w gw w32 s0 htick hst w31 => ?_) (fun w gw w32 s0 htick hst w31 => ?_)
  rotate_left
  · refine ⟨fun _ => hL w (rj_dead_z (δ := 0) hC (m := Sz.fail) ⟨hP.1.tr (gw.mono f8S_Z f80_any), Or.inr ⟨s, ⟨w32, hst, fun q => by have h1 := hl.2.2.1.2.1 q; have h2 := gw.2.2.1 29 (by decide); omega⟩, by rw [eR]; exact rw_Kn0 s0⟩⟩ w32), fun z => absurd rfl z⟩
  refine ⟨(fun z => by cases z), fun _ => ?_⟩
  have eR2 : R = Sp.bd (Sz.rwStep E (Sz.rw E d') ctx o tr) (Kn K ctx o tr s.2.2) (s.1 - 1, s.2.1, []) := by rw [eR]; exact rw_Kn s0
  have hlow : lo ≤ s.1 - 1 := by
    have f := hC.2.2.1
    rw [eR2] at f
    exact f.low (Mono_z.bd (rwStep_mono_z (rw_mono_z d')) (Kn_mono hK))
  have wn : ∀ k, k ≠ 31 → k ≠ 32 → w.1 k = v.1 k := fun k h1 h2 => gw.2.2.1 k (by unfold f8S; exact decide_eq_false (by omega))
  have wr : ∀ k, w.2.1 k = v.2.1 k := fun k => gw.2.2.2 k rfl
  unfold pv_6_ask_81
  intro n1 en1 _
  rw [en1, wn 23 (by decide) (by decide), h23]
  intro _ _ _ _ y1 e1 _ _ y2 e2 _ _ y3 e3 _ _ y4 e4 n7 en7 _ _ _ y5 e5 n8 en8 _ _ y6 e6
  have g1 : CG f8Jn f8Jr w y1 := by rw [e1]; exact CG_A gw.1 (by omega) (by decide)
  have g2 : CG f8Jn f8Jr y1 y2 := by rw [e2]; exact CG_A g1.1 (by omega) (by decide)
  have g3 : CG f8Jn f8Jr y2 y3 := by rw [e3]; exact CG_A g2.1 (by omega) (by decide)
  have g4 : CG f8Jn f8Jr y3 y4 := by rw [e4]; exact CG_A g3.1 (by omega) (by decide)
  have g5 : CG f8Jn f8Jr y4 y5 := by rw [e5]; exact CG_A g4.1 (by omega) (by decide)
  have g6 : CG f8Jn f8Jr y5 y6 := by rw [e6]; exact CG_I g5.1 (by decide) (by decide)
  have gA := ((((g1.tr g2).tr g3).tr g4).tr g5).tr g6
  have y51 : ∀ j, y6.2.1 51 j = if j = 17 * c + 4 then n7 else if j = 17 * c + 3 then 0 else if j = 17 * c + 2 then row else if j = 17 * c + 1 then g else if j = 17 * c + 0 then x else w.2.1 51 j := fun j => by rw [e6, e5, e4, e3, e2, e1]; rfl
  have yn : ∀ k, k ≠ 23 → y6.1 k = w.1 k := fun k hk => by rw [e6, e5, e4, e3, e2, e1]; exact if_neg hk
  have y23 : y6.1 23 = c + 1 := by
    have e8' : n8 = c := by rw [en8, e5, e4, e3, e2, e1]; exact (wn 23 (by decide) (by decide)).trans h23
    rw [e6, e8']; rfl
  have y652 : y6.2.1 52 = v.2.1 52 := by rw [e6, e5, e4, e3, e2, e1]; exact wr 52
  have y626 : y6.1 26 = v.1 26 := by rw [yn 26 (by decide), wn 26 (by decide) (by decide)]
  have e7n : n7 = v.1 26 := by rw [en7, e4, e3, e2, e1]; exact wn 26 (by decide) (by decide)
  have yx : y6.2.1 51 (17 * c + 0) = x := by rw [y51, if_neg (by omega), if_neg (by omega), if_neg (by omega), if_neg (by omega), if_pos rfl]
  have yg : y6.2.1 51 (17 * c + 1) = g := by rw [y51, if_neg (by omega), if_neg (by omega), if_neg (by omega), if_pos rfl]
  have yr : y6.2.1 51 (17 * c + 2) = row := by rw [y51, if_neg (by omega), if_neg (by omega), if_pos rfl]
  -- what is noted
  have fin : ∀ z, CG f8Jn f8Jr y6 z → z.2.1 51 = y6.2.1 51 → (∀ k, k ≠ 26 → z.1 k = y6.1 k) → z.1 26 = v.1 26 + 1 → (∀ i, z.2.1 52 i = if 5 * v.1 26 ≤ i ∧ i < 5 * v.1 26 + 3 then y6.2.1 51 (17 * c + (i - 5 * v.1 26)) else v.2.1 52 i) → L z := by
    intro z gz z51 zn z26 z52
    have gwz := gA.tr gz
    have gvz : CG f8Jn f8Jr v z := (gw.mono f8S_J f80_any).tr gwz
    have zk : ∀ k, k ≠ 26 → k ≠ 23 → z.1 k = w.1 k := fun k h1 h2 => (zn k h1).trans (yn k h2)
    have z31 : z.1 31 = v.1 31 + 1 := by rw [zk 31 (by decide) (by decide)]; exact w31
    have zx : ∀ j, 0 ≤ j → j < 3 → z.2.1 52 (5 * v.1 26 + j) = y6.2.1 51 (17 * c + j) := fun j j0 j1 => by rw [z52, if_pos (by omega), show 5 * v.1 26 + j - 5 * v.1 26 = j by omega]
    have kz51 : ∀ j, j < 17 * c → z.2.1 51 j = v.2.1 51 j := fun j hj => by rw [z51, y51, if_neg (by omega), if_neg (by omega), if_neg (by omega), if_neg (by omega), if_neg (by omega), wr 51]
    have kz : RjK_z (b0, some b, E, lo, X) c v z := ⟨gvz.mono f8Jn_Z (fun _ q => q), kz51, by omega, fun i hi => by rw [z52, if_neg (by omega)]⟩
    have z32 : z.1 32 = 0 := by rw [zk 32 (by decide) (by decide), w32]; exact h32
    have z29 : z.1 29 = v.1 29 := by rw [zk 29 (by decide) (by decide), wn 29 (by decide) (by decide)]
    have z30 : z.1 30 = w.1 30 := zk 30 (by decide) (by decide)
    have s31 : 0 ≤ w.1 31 ∧ w.1 31 + ((s.1 - 1 : Nat) : Int) = w.1 30 := hst
    refine hL z (hq d' z s.2.2 rfl kz z32 ⟨by rw [zn 23 (by decide)]; exact y23, by rw [z51]; exact yx, by rw [z51]; exact yg, by rw [z51]; exact yr, fun b2 hb2 => ?_⟩ ?_ z31 z26 ⟨by rw [zx 0 (by decide) (by decide)]; exact yx, by rw [zx 1 (by decide) (by decide)]; exact yg, by rw [zx 2 (by decide) (by decide)]; exact yr⟩ hl.2.2.2.1 ⟨(hP.1.tr (gvz.mono f8Jn_Z (fun _ q => q))).sh, Or.inl ⟨(s.1 - 1, s.2.1, []), ⟨z32, ?_, (hl.2.2.1.up hT gvz z29).sh, ⟨?_, ⟨?_, ?_⟩, ⟨fun _ => by omega, fun z => by cases z⟩, NzL.nil⟩, hlow⟩, eR2⟩⟩)
    · have hb2 : some (v.1 26 + 1) = some b2 := hb2
      injection hb2 with hb2
      rw [z51, y51, if_pos rfl, e7n, ← hb2]
      omega
    · rw [z51, y51, if_neg (by omega), if_pos rfl]
    · show 0 ≤ z.1 31 ∧ z.1 31 + ((s.1 - 1 : Nat) : Int) = z.1 30
      rw [zk 31 (by decide) (by decide), z30]
      exact s31
    · show 0 ≤ v.1 26 + 1
      omega
    · show v.1 26 + 1 + ((0 : Nat) : Int) = z.1 26
      omega
    · have e30 : v.1 30 = u0.1 30 := hP.1.2.2.1 30 rfl
      have w30 : w.1 30 = v.1 30 := wn 30 (by decide) (by decide)
      have h1000 := hC.2.2.2.1.2.2.2.2 (fun z => by cases z)
      omega
  intro n10 en10 _
  refine ⟨fun q => absurd (by rw [en10, yn 27 (by decide), wn 27 (by decide) (by decide)]; exact h27) q, fun _ => ?_⟩
  intro n11 en11 _
  have e30 : v.1 30 = u0.1 30 := hP.1.2.2.1 30 rfl
  have w30 : w.1 30 = v.1 30 := wn 30 (by decide) (by decide)
  have hst2 : 0 ≤ w.1 31 ∧ w.1 31 + (((s.1 - 1 : Nat)) : Int) = w.1 30 := hst
  have h1000 := hC.2.2.2.1.2.2.2.2 (fun z => by cases z)
  refine ⟨fun q => by rw [en11, y626] at q; omega, fun _ => ?_⟩
  intro n12 en12 _ _ _ y7 e7 n15 en15 _ _ y8 e8
  have g7 : CG f8Jn f8Jr y6 y7 := by rw [e7]; exact CG_Cp gA.1 (by omega) (by decide)
  have g8 : CG f8Jn f8Jr y7 y8 := by rw [e8]; exact CG_I g7.1 (by decide) (by decide)
  refine fin y8 (g7.tr g8) (by rw [e8, e7]; rfl) (fun k hk => by rw [e8, e7]; exact if_neg hk) ?_ (fun i => ?_)
  · rw [e8]
    show n15 + 1 = _
    rw [en15, e7]
    show y6.1 26 + 1 = _
    rw [y626]
  · rw [e8, e7]
    show (if 5 * n12 ≤ i ∧ i < 5 * n12 + 3 then y6.2.1 51 (17 * c + (i - 5 * n12)) else y6.2.1 52 i) = _
    rw [en12, y626, y652]
/-- a term that was noted ends: its note is whole -/
theorem fn_orig [DecidableEq Ob] {v0 w0 : iST} {x g row c T : Int} {K : Ob → Sz.M α} {ctx : List Ob} {t0 : List Sz.Nt} (hC : CtJ_z u0 E (b0, some b, E, lo, X) R Q) (hO : OwJ_z u0 E (b0, some b, E, lo, X) R Q c v0 T K) (hT0 : CT v0) (kw0 : RjK_z (b0, some b, E, lo, X) c v0 w0) (w26 : w0.1 26 = v0.1 26 + 1) (hn : w0.2.1 52 (5 * v0.1 26 + 0) = x ∧ w0.2.1 52 (5 * v0.1 26 + 1) = g ∧ w0.2.1 52 (5 * v0.1 26 + 2) = row) (hN : NzM (b0, some b, E, lo, X) v0 t0) (nx : NdC v0 E x) (cx : CxC v0 E row ctx) (hg : g = 0 ∨ g = 1) :
    FnJ u0 E (b0, some (v0.1 26 + 1), E, lo, X) R Q c x g row w0 T (Kn K ctx (oc v0 x) (decide (g = 1)) t0) := by
  intro a t v L hL hk hF na hP ht
  have hT := hP.1.1
  have h27 : v.1 27 = 0 := by rw [hP.1.2.2.1 27 rfl]; exact hC.2.2.2.1.2.1
  have hf4 : v.2.1 51 (17 * c + 4) = v0.1 26 := by rw [hF.2.2.2.2 (v0.1 26 + 1) rfl]; omega
  obtain ⟨m1, m2, m3, m4⟩ := hN
  have m1 : 0 ≤ b := m1
  have m2 : b + (t0.length : Int) = v0.1 26 ∧ v0.1 26 ≤ 1000 := m2
  have m4 : NzL E v0 b t0 := m4
  refine pc_finR (B := (b0, some (v0.1 26 + 1), E, lo, X)) hT hF.1 hF.2.2.1 na (fun y w gw w23 w24 w51 wc wn hb _ w52 => hL w ?_)
  have gvw : CG (f8Zz (b0, some b, E, lo, X)) f8Jr v w := gw.sh
  have guw : CG (f8Zz (b0, some b, E, lo, X)) f8Jr u0 w := hP.1.sh.tr gvw
  by_cases h32 : v.1 32 = 0
  rotate_left
  · obtain ⟨s, hd, e⟩ := hP.dead (δ' := 2000) h32
    refine rj_dead_z (δ := 2000) hC (m := Sz.fail) ⟨guw, Or.inr ⟨s, ⟨by rw [wn 32 (by decide) (by decide)]; exact h32, ?_, fun q => by rw [wn 29 (by decide) (by decide)]; exact hd.2.2 (fun z => by cases z)⟩, e⟩⟩ (by rw [wn 32 (by decide) (by decide)]; exact h32)
    have : 0 ≤ v.1 31 ∧ v.1 31 + (s.1 : Int) = v.1 30 := hd.2.1
    show 0 ≤ w.1 31 ∧ w.1 31 + (s.1 : Int) = w.1 30
    rw [wn 31 (by decide) (by decide), wn 30 (by decide) (by decide)]
    exact this
  obtain ⟨s, hl, eR⟩ := hP.live h32
  obtain ⟨p1, p2, p3, p4⟩ := hl.2.2.2.1
  have p2 : v0.1 26 + 1 + (s.2.2.length : Int) = v.1 26 ∧ v.1 26 ≤ 1000 := p2
  have p3 : v.1 26 ≤ v.1 31 := p3.1 (fun z => by cases z)
  have p4 : NzL E v (v0.1 26 + 1) s.2.2 := p4
  have w52 := w52 h27 (by rw [hf4]; omega)
  rw [hf4] at w52
  obtain ⟨ny, ey⟩ := hb h32
  obtain ⟨nyw, eyw⟩ := ny.up hT gw
  have low : ∀ i, i < 5 * (v0.1 26 + 1) → v.2.1 52 i = w0.2.1 52 i := fun i hi => hk.2.2.2 i (by rw [w26]; omega)
  have kvw : RjK_z (b0, some b, E, lo, X) c v0 w := ⟨kw0.1.tr (hk.1.sh.tr gvw), fun j hj => by rw [w51, hk.2.1 j hj, kw0.2.1 j hj], by rw [wn 26 (by decide) (by decide)]; omega, fun i hi => by rw [w52, if_neg (by omega), if_neg (by omega), low i (by omega)]; exact kw0.2.2.2 i hi⟩
  have wx : ∀ i, 0 ≤ i → i < 3 → w.2.1 52 (5 * v0.1 26 + i) = w0.2.1 52 (5 * v0.1 26 + i) := fun i i0 i1 => by rw [w52, if_neg (by omega), if_neg (by omega)]; exact low _ (by omega)
  have w0' : w.2.1 52 (5 * v0.1 26 + 0) = x := by rw [wx 0 (by decide) (by decide)]; exact hn.1
  have w1' : w.2.1 52 (5 * v0.1 26 + 1) = g := by rw [wx 1 (by decide) (by decide)]; exact hn.2.1
  have w2' : w.2.1 52 (5 * v0.1 26 + 2) = row := by rw [wx 2 (by decide) (by decide)]; exact hn.2.2
  have w3' : w.2.1 52 (5 * v0.1 26 + 3) = y := by rw [w52, if_neg (by omega), if_pos rfl]
  have w4' : w.2.1 52 (5 * v0.1 26 + 4) = v.1 26 := by rw [w52, if_pos rfl]
  obtain ⟨nxw, exw⟩ := nx.up hT0 kvw.1
  have cxw := cx.up hT0 kvw.1
  have e26 : w.1 26 = v.1 26 := wn 26 (by decide) (by decide)
  have e31 : w.1 31 = v.1 31 := wn 31 (by decide) (by decide)
  have own : NzV E w (v0.1 26) := ⟨⟨ctx, by rw [w2']; exact cxw⟩, by rw [w0']; exact nxw, by rw [w3']; exact nyw, by rw [w1']; exact hg, by rw [w4']; omega, by rw [w4']; omega⟩
  have nt : (Sz.row ctx, oc v0 x, decide (g = 1), Sp.fin (decide (g = 1)) (oc v a), s.2.2.length) = ntC w (v0.1 26) := by
    unfold ntC
    rw [w0', w1', w2', w3', w4', exw, eyw, ey, cxw.2.1, show (v.1 26 - v0.1 26 - 1).toNat = s.2.2.length by omega]
    rfl
  have all : NzL E w b (t0 ++ (Sz.row ctx, oc v0 x, decide (g = 1), Sp.fin (decide (g = 1)) (oc v a), s.2.2.length) :: s.2.2) := by
    refine NzL.app (m4.up hT0 kvw.1 kvw.2.2.1 (fun i h1 h2 => kvw.2.2.2 i (by omega))) ?_
    rw [m2.1]
    refine NzL.cons own nt (p4.up hT gw (by omega) (fun i h1 h2 => ?_))
    rw [w52, if_neg (by omega), if_neg (by omega)]
  have hst : 0 ≤ v.1 31 ∧ v.1 31 + (s.1 : Int) = v.1 30 := hl.2.1
  refine hO w y t kvw nyw w24 w23 (by rw [wn 32 (by decide) (by decide)]; exact h32) ⟨guw, Or.inl ⟨(s.1, s.2.1, t0 ++ (Sz.row ctx, oc v0 x, decide (g = 1), Sp.fin (decide (g = 1)) (oc v a), s.2.2.length) :: s.2.2), ⟨by rw [wn 32 (by decide) (by decide)]; exact h32, ?_, (hl.2.2.1.up hT gw (wn 29 (by decide) (by decide))).sh, ⟨m1, ⟨?_, by omega⟩, ⟨fun _ => by omega, fun z => by cases z⟩, all⟩, hl.2.2.2.2⟩, ?_⟩⟩ ?_
  · show 0 ≤ w.1 31 ∧ w.1 31 + (s.1 : Int) = w.1 30
    rw [e31, wn 30 (by decide) (by decide)]
    exact hst
  · show b + ((t0 ++ (Sz.row ctx, oc v0 x, decide (g = 1), Sp.fin (decide (g = 1)) (oc v a), s.2.2.length) :: s.2.2).length : Int) = w.1 26
    rw [List.length_append, List.length_cons]
    omega
  · rw [eyw, ey]
    exact eR
  · have ht : t + T ≤ 24 * (v.1 31 + 0 - (u0.1 31 + 0)) := ht
    show t + T ≤ 24 * (w.1 31 + 0 - (u0.1 31 + 0))
    omega
theorem rj_all_z [DecidableEq Ob] : ∀ (d : Nat) (b c : Int), CtJ_z u0 E (b0, some b, E, lo, X) R Q → 0 ≤ c → c + (d : Int) = 60 → RjG_z u0 E (b0, some b, E, lo, X) R Q (Sz.rw E d) c := by
  intro d
  induction d with
  | zero =>
    intro b c hC c0 hd δ ctx x g row t T v K L hL hP h32 hK h23 hg nx cx T0 ht1 ht2 hO
    exact pc_ask_z hC hL hP hK h32 h23 c0 hd (fun d' w t0 ed => by cases ed)
  | succ d ih =>
    intro b c hC c0 hd δ ctx x g row t T v K L hL hP h32 hK h23 hg nx cx T0 ht1 ht2 hO
    refine pc_ask_z (x := x) (g := g) (row := row) hC hL hP hK h32 h23 c0 hd (fun d' w t0 ed kw w32 hF h3 w31 w26 hn hN hPw => ?_)
    have ed : d' = d := by omega
    rw [ed] at hPw
    obtain ⟨nxw, exw⟩ := nx.up hP.1.1 kw.1
    have ht1 : t + T ≤ 24 * (v.1 31 + 0 - (u0.1 31 + 0)) + 4 := ht1
    refine st_start_z (v0 := w) (T := T) (K := Kn K ctx (oc v x) (decide (g = 1)) t0) (ρ := Sz.rw E d) (ctx := ctx) ⟨hC.sh, ih (v.1 26 + 1) (c + 1) hC.sh (by omega) (by omega), fn_orig hC hO hP.1.1 kw w26 hn hN nx cx hg, Kn_mono hK, c0, fun c o t => rw_mono_z d c o t, T0⟩ ⟨RjK_z.rf kw.1.1, hF, w32, nxw, cx.up hP.1.1 kw.1, hg⟩ h3 (by rw [exw]; exact hPw) ?_
    show t + T + 20 ≤ 24 * (w.1 31 + 0 - (u0.1 31 + 0))
    omega
end
theorem bd_ret_z [DecidableEq Ob] {α : Type} (m : Sz.M α) (s : Sz.Wk) : Sp.bd m Sz.ret s = m s := by
  unfold Sp.bd
  cases m s with
  | ok a s1 => rfl
  | error e s1 => rfl
theorem bd_retf [DecidableEq Ob] {α : Type} (m : Sz.M α) : Sp.bd m Sz.ret = m := funext (bd_ret_z m)
/-- REWRITING with its notes -/
theorem pc_rewritten_z [DecidableEq Ob] {x g row b : Int} {k c0 : Nat} {Q : Int → iST → Prop} {v : iST} {E : Sp.Env} {ctx : List Ob} (hT : CT v) (hE : EnvC v E) (hst : StS v (k, 0)) (h29 : v.1 29 ≤ b + (c0 : Int)) (fit : b + (cntR (Sp.rw E 60 ctx (oc v x) (decide (g = 1)) (k, c0)) : Int) ≤ 160000) (h30 : v.1 30 ≤ 1000) (h32 : v.1 32 = 0) (hg : g = 0 ∨ g = 1) (nx : NdC v E x) (cx : CxC v E row ctx) (h26 : 0 ≤ v.1 26 ∧ v.1 26 ≤ v.1 31)
    (hq : ∀ a w s', Sz.rw E 60 ctx (oc v x) (decide (g = 1)) (k, (c0, []), []) = .ok (oc w a) s' → CG f8Jn f8Jr v w → NdC w E a → w.1 32 = 0 → StS w (s'.1, 0) → w.1 29 ≤ b + (s'.2.1.1 : Int) → (∀ o, o ∈ s'.2.1.2 → ExT w o) → (v.1 26 + (s'.2.2.length : Int) = w.1 26 ∧ w.1 26 ≤ 1000 ∧ w.1 26 ≤ w.1 31) → NzL E w (v.1 26) s'.2.2 → (∀ i, i < 5 * v.1 26 → w.2.1 52 i = v.2.1 52 i) → Q a w)
    (hbad : ∀ w s', Sz.rw E 60 ctx (oc v x) (decide (g = 1)) (k, (c0, []), []) = .error () s' → CG f8Jn f8Jr v w → w.1 32 ≠ 0 → StS w (s'.1, 0) → w.1 29 ≤ b + (s'.2.1.1 : Int) + 2000 → Q (-1) w) : pv_6_rewritten x g row Q v := by
  have h31 : 0 ≤ v.1 31 ∧ v.1 31 + (k : Int) = v.1 30 := hst
  have pj := pj_rw (E := E) 60 ctx (oc v x) (decide (g = 1)) (k, (c0, []), [])
  have pj : Sp.rw E 60 ctx (oc v x) (decide (g = 1)) (k, c0) = pjR (Sz.rw E 60 ctx (oc v x) (decide (g = 1)) (k, (c0, []), [])) := pj
  have fz : Fit_z (b, some (v.1 26), E, 0, fun _ => True, 0) (Sz.rw E 60 ctx (oc v x) (decide (g = 1)) (k, (c0, []), [])) := by
    rw [pj] at fit
    cases q : Sz.rw E 60 ctx (oc v x) (decide (g = 1)) (k, (c0, []), []) with
    | ok a s1 =>
      rw [q] at fit
      exact ⟨⟨fun _ => fit, fun z => by cases z⟩, Nat.zero_le _⟩
    | error e s1 =>
      rw [q] at fit
      exact ⟨⟨fun _ => fit, fun z => by cases z⟩, rfl, fun z => by cases z⟩
  have hEz : EnvZ v E := ⟨hE.1.z, hE.2.1, hE.2.2.1, hE.2.2.2.1.z hE.2.2.2.2.1⟩
  have hC : CtJ_z v E (b, some (v.1 26), E, 0, fun _ => True, 0) (Sz.rw E 60 ctx (oc v x) (decide (g = 1)) (k, (c0, []), [])) Q := ⟨hT, hEz, fz, ⟨rfl, hE.2.2.2.2.2, Int.le_refl _, by show v.1 30 - v.1 31 ≤ ((0 : Nat) : Int) + 1000; omega, fun _ => h30⟩, fun w s g d e => by
    have e := e
    exact hbad w s e g d.1 d.2.1 (d.2.2 (fun z => by cases z))⟩
  unfold pv_6_rewritten
  intro y1 e1 y2 e2
  have g1 : CG f8Jn f8Jr v y1 := by rw [e1]; exact CG_I hT (by decide) (by decide)
  have g2 : CG f8Jn f8Jr y1 y2 := by rw [e2]; exact CG_I g1.1 (by decide) (by decide)
  have gg := g1.tr g2
  have yn : ∀ k, k ≠ 23 → k ≠ 24 → y2.1 k = v.1 k := fun k h1 h2 => by rw [e2, e1]; show (if k = 24 then _ else if k = 23 then _ else v.1 k) = _; rw [if_neg h2, if_neg h1]
  have y23 : y2.1 23 = 0 := by rw [e2, e1]; rfl
  have y52 : y2.2.1 52 = v.2.1 52 := by rw [e2, e1]; rfl
  obtain ⟨nx2, ex2⟩ := nx.up hT gg
  have hP2 : PdK_z (b, some (v.1 26), E, 0, fun _ => True, 0) 0 (f8Zz (b, some (v.1 26), E, 0, fun _ => True, 0)) f8Jr v y2 (Sz.rw E 60 ctx (oc v x) (decide (g = 1)) (k, (c0, []), [])) (Sp.bd (Sz.rw E 60 ctx (oc y2 x) (decide (g = 1))) Sz.ret) := by
    rw [ex2]
    refine ⟨gg.mono f8Jn_Z (fun _ q => q), Or.inl ⟨(k, (c0, []), []), ⟨by rw [yn 32 (by decide) (by decide)]; exact h32, ?_, ⟨fun o ho => (by cases ho), fun _ => ?_, fun z => by cases z⟩, ⟨h26.1, ⟨?_, ?_⟩, ⟨fun _ => ?_, fun z => by cases z⟩, NzL.nil⟩, Nat.zero_le _⟩, (bd_ret_z _ _).symm⟩⟩
    · show 0 ≤ y2.1 31 ∧ y2.1 31 + (k : Int) = y2.1 30
      rw [yn 31 (by decide) (by decide), yn 30 (by decide) (by decide)]
      exact h31
    · show y2.1 29 ≤ b + (c0 : Int)
      rw [yn 29 (by decide) (by decide)]
      exact h29
    · show v.1 26 + ((0 : Nat) : Int) = y2.1 26
      rw [yn 26 (by decide) (by decide)]
      omega
    · rw [yn 26 (by decide) (by decide)]
      omega
    · rw [yn 26 (by decide) (by decide), yn 31 (by decide) (by decide)]
      exact h26.2
  refine rj_all_z 60 (v.1 26) 0 hC (Int.le_refl _) (by decide) ctx x g row 0 0 y2 Sz.ret _ (fun w h => h) hP2 (by rw [yn 32 (by decide) (by decide)]; exact h32) (fun _ => Mono_z.ret) y23 hg nx2 (cx.up hT gg) (Int.le_refl _) ?_ ?_ ?_
  · show (0 : Int) + 0 ≤ 24 * (y2.1 31 + 0 - (v.1 31 + 0)) + 4
    rw [yn 31 (by decide) (by decide)]
    omega
  · show (0 : Int) ≤ 24 * (y2.1 31 + 0 - (v.1 31 + 0))
    rw [yn 31 (by decide) (by decide)]
    omega
  intro w a t kw na w24 w23 w32 hPw ht
  obtain ⟨s', hl, eR⟩ := hPw.live w32
  have gw : CG f8Jn f8Jr v w := hPw.1
  have m := hl.2.2.2.1
  have m2 : v.1 26 + (s'.2.2.length : Int) = w.1 26 ∧ w.1 26 ≤ 1000 := m.2.1
  have fin : pv_6_rewritten_405 Q w := by
    unfold pv_6_rewritten_405
    intro b eb _
    rw [eb]
    refine ⟨fun z => absurd w32 z, fun _ => ?_⟩
    intro e ee _
    rw [ee, w24]
    exact hq a w s' eR gw na w32 hl.2.1 (hl.2.2.1.2.1 (fun z => by cases z)) hl.2.2.1.1 ⟨m2.1, m2.2, m.2.2.1.1 (fun z => by cases z)⟩ m.2.2.2 (fun i hi => by rw [kw.2.2.2 i (by rw [yn 26 (by decide) (by decide)]; exact hi), y52])
  refine fo_v_6_rewritten_20 ?_
  unfold pv_6_rewritten_20b
  refine ⟨fun _ => fin, fun _ => ?_⟩
  intro b eb _
  rw [eb, w23]
  exact ⟨fun _ => fin, fun z => absurd (Int.le_refl _) z⟩
/-- REWRITING, as the specification says; every note of it can be asked again -/
theorem rw_head [DecidableEq Ob] {E : Sp.Env} {d : Nat} {ctx : List Ob} {o : Ob} {tr : Bool} {s s' : Sz.Wk} {y : Ob} (e : Sz.rw E (d + 1) ctx o tr s = .ok y s') (hs : s.2.2 = []) : ∃ inner, s'.2.2 = (Sz.row ctx, o, tr, y, inner.length) :: inner := by
  have e : Sp.bd Sz.tick (fun _ => Sz.asked ctx o tr (Sz.rwStep E (Sz.rw E d) ctx o tr)) s = .ok y s' := e
  by_cases c0 : s.1 = 0
  · rw [bind_err (ztick_err c0)] at e
    cases e
  rw [bind_ok (ztick_ok c0)] at e
  have e : (match Sz.rwStep E (Sz.rw E d) ctx o tr (s.1 - 1, s.2.1, []) with | .ok v s' => EStateM.Result.ok (Sp.fin tr v) (s'.1, s'.2.1, s.2.2 ++ (Sz.row ctx, o, tr, Sp.fin tr v, s'.2.2.length) :: s'.2.2) | .error e s' => .error e s') = .ok y s' := e
  cases q : Sz.rwStep E (Sz.rw E d) ctx o tr (s.1 - 1, s.2.1, []) with
  | error x s1 =>
    rw [q] at e
    cases e
  | ok a s1 =>
    rw [q] at e
    injection e with e1 e2
    refine ⟨s1.2.2, ?_⟩
    rw [← e2, hs, ← e1]
    rfl
def NtR [DecidableEq Ob] (E : Sp.Env) (v w : iST) : Prop := ∃ t : List Sz.Nt, (v.1 26 + (t.length : Int) = w.1 26 ∧ w.1 26 ≤ 1000) ∧ NzL E w (v.1 26) t ∧ ∀ rest, NtsOk (RpN (ExT w) E) t rest
theorem pc_rewrittenG [DecidableEq Ob] {α : Type} {δ : Nat} {u0 v : iST} {E : Sp.Env} {B x g row : Int} {R : EStateM.Result Unit Sp.Wk α} {K : Ob → Sp.M α} {ctx : List Ob} {n r : Nat → Bool} {Q : Int → iST → Prop} (hP : PdK_d B δ n r u0 v R (Sp.bd (Sp.rw E 60 ctx (oc v x) (decide (g = 1))) K)) (hn : ∀ k, n k = false → f8Jn k = false) (hr : ∀ k, r k = false → f8Jr k = false) (hE : EnvC v E) (fit : Fit B R) (hK : ∀ a, Mono (K a)) (h30 : v.1 30 ≤ 1000) (h32 : v.1 32 = 0) (hg : g = 0 ∨ g = 1) (nx : NdC v E x) (cx : CxC v E row ctx) (h26 : 0 ≤ v.1 26 ∧ v.1 26 ≤ v.1 31)
    (hq : ∀ a w, CG f8Jn f8Jr v w → NdC w E a → w.1 32 = 0 → PdK_d B 0 n r u0 w R (K (oc w a)) → NtK v w → NtO x g row (v.1 26) a w → NtR E v w → Q a w) (hbad : ∀ w, CG f8Jn f8Jr v w → w.1 32 ≠ 0 → (∃ s, Dd_d B 2000 w s ∧ R = .error () s) → Q (-1) w) : pv_6_rewritten x g row Q v := by
  have hT := hP.1.1
  obtain ⟨s, hl, eR⟩ := hP.live h32
  have hst : 0 ≤ v.1 31 ∧ v.1 31 + (s.1 : Int) = v.1 30 := hl.2.1
  have pj := pj_rw (E := E) 60 ctx (oc v x) (decide (g = 1)) (s.1, (s.2, []), [])
  have pj : Sp.rw E 60 ctx (oc v x) (decide (g = 1)) s = pjR (Sz.rw E 60 ctx (oc v x) (decide (g = 1)) (s.1, (s.2, []), [])) := pj
  have hroom : B + (cntR (Sp.rw E 60 ctx (oc v x) (decide (g = 1)) (s.1, s.2)) : Int) ≤ 160000 := by
    have f := fit
    rw [eR] at f
    exact f.bd hK
  refine pc_rewritten_z (k := s.1) (c0 := s.2) (b := B) hT hE hst hl.2.2 hroom h30 h32 hg nx cx h26 (fun a w s' hz gw na w32 wst w29 wlog wlen wN w52 => ?_) (fun w s' hz gw w32 wst wd => ?_)
  · have eS : Sp.rw E 60 ctx (oc v x) (decide (g = 1)) s = .ok (oc w a) (s'.1, s'.2.1.1) := by
      rw [pj, hz]; rfl
    have hw31 : 0 ≤ w.1 31 ∧ w.1 31 + (s'.1 : Int) = w.1 30 := wst
    have w30 : w.1 30 = v.1 30 := gw.2.2.1 30 (by decide)
    have tl := rw_tl (E := E) 60 ctx (oc v x) (decide (g = 1)) _ _ _ hz
    have tl : s'.2.2.length + s'.1 ≤ 0 + s.1 := tl
    obtain ⟨inner, ei⟩ := rw_head hz rfl
    have wN0 := wN
    rw [ei] at wN wlen
    have wlen1 : v.1 26 + ((inner.length + 1 : Nat) : Int) = w.1 26 := wlen.1
    obtain ⟨q1, q2⟩ := wN 0 (Nat.zero_lt_succ _)
    rw [show v.1 26 + ((0 : Nat) : Int) = v.1 26 by omega] at q1 q2
    have q2 := Option.some.inj q2
    obtain ⟨⟨ctx', c1⟩, n0, n3, g1, l1, l2⟩ := q1
    obtain ⟨nxw, exw⟩ := nx.up hT gw
    have cxw := cx.up hT gw
    have q21 : Sz.row ctx = oc w (w.2.1 52 (5 * v.1 26 + 2)) := congrArg (fun n : Sz.Nt => n.1) q2
    have q22 : oc v x = oc w (w.2.1 52 (5 * v.1 26 + 0)) := congrArg (fun n : Sz.Nt => n.2.1) q2
    have q23 : decide (g = 1) = decide (w.2.1 52 (5 * v.1 26 + 1) = 1) := congrArg (fun n : Sz.Nt => n.2.2.1) q2
    have q24 : oc w a = oc w (w.2.1 52 (5 * v.1 26 + 3)) := congrArg (fun n : Sz.Nt => n.2.2.2.1) q2
    have q25 : inner.length = (w.2.1 52 (5 * v.1 26 + 4) - v.1 26 - 1).toNat := congrArg (fun n : Sz.Nt => n.2.2.2.2) q2
    have f0 : w.2.1 52 (5 * v.1 26 + 0) = x := (gw.1.1.inj n0.1.1 n0.1.2 nxw.1.1 nxw.1.2).mp (by rw [← q22, exw])
    have f2 : w.2.1 52 (5 * v.1 26 + 2) = row := (gw.1.1.inj c1.1.1 c1.1.2 cxw.1.1 cxw.1.2).mp (by rw [← q21, cxw.2.1]; rfl)
    have f3 : w.2.1 52 (5 * v.1 26 + 3) = a := (gw.1.1.inj n3.1.1 n3.1.2 na.1.1 na.1.2).mp q24.symm
    have f1 : w.2.1 52 (5 * v.1 26 + 1) = g := by
      by_cases c : g = 1
      · rw [decide_eq_true c] at q23
        rw [c]; exact of_decide_eq_true q23.symm
      · rw [decide_eq_false c] at q23
        have := of_decide_eq_false q23.symm
        omega
    have hRz : ∀ rest, NtsOk (RpN (ExT w) E) s'.2.2 rest := by
      obtain ⟨t', e1, e2, _⟩ := rm_rw (L := ExT w) (E := E) 60 ctx (oc v x) (decide (g = 1)) (s.1, (s.2, []), []) _ s' (by show s.1 ≤ 1000; omega) hz wlog
      have e1 : s'.2.2 = t' := e1
      rw [e1]
      exact e2
    refine hq a w gw na w32 ⟨hP.1.tr (gw.mono hn hr), Or.inl ⟨(s'.1, s'.2.1.1), ⟨w32, wst, ?_⟩, by rw [eR]; exact bind_ok eS⟩⟩ ⟨by omega, by rw [ei, List.length_cons] at tl; omega, w52⟩ ⟨by omega, wlen.2.2, f0, f1, f2, f3, by omega⟩ ⟨s'.2.2, ⟨by rw [ei]; exact wlen.1, wlen.2.1⟩, wN0, hRz⟩
    exact w29
  · refine hbad w gw w32 ⟨(s'.1, s'.2.1.1), ⟨w32, wst, wd⟩, ?_⟩
    have eS : Sp.rw E 60 ctx (oc v x) (decide (g = 1)) s = .error () (s'.1, s'.2.1.1) := by
      rw [pj, hz]; rfl
    rw [eR]
    exact bind_err eS
theorem NwL.mono [DecidableEq Ob] {L L' : Ob → Prop} {c c' : Sz.Co} (hL : ∀ o, L o → L' o) (h : NwL L c c') : NwL L' c c' := fun o ho => (h o ho).imp id (hL o)
theorem RpN.mono [DecidableEq Ob] {L L' : Ob → Prop} {E : Sp.Env} {n : Sz.Nt} {t : List Sz.Nt} (hL : ∀ o, L o → L' o) (h : RpN L E n t) : RpN L' E n t := by
  obtain ⟨ctx, e, h⟩ := h
  refine ⟨ctx, e, fun s2 h1 h2 => ?_⟩
  obtain ⟨v, s', a, b, c, d, f⟩ := h s2 h1 h2
  exact ⟨v, s', a, b, c, d.mono hL, f⟩
/-- every note can be asked again, and nothing is made by it -/
def NtG [DecidableEq Ob] (E : Sp.Env) (v : iST) : Prop := ∃ t : List Sz.Nt, NzL E v 0 t ∧ ((t.length : Int) = v.1 26 ∧ v.1 26 ≤ 1000) ∧ ∀ rest, NtsOk (RpN (ExT v) E) t rest
theorem NtG.keep [DecidableEq Ob] {n r : Nat → Bool} {E : Sp.Env} {v w : iST} (h : NtG E v) (hT : CT v) (g : CG n r v w) (h26 : w.1 26 = v.1 26) (h52 : ∀ i, i < 5 * v.1 26 → w.2.1 52 i = v.2.1 52 i) : NtG E w := by
  obtain ⟨t, h1, h2, h3⟩ := h
  refine ⟨t, h1.up hT g (by omega) (fun i _ hi => h52 i (by omega)), by rw [h26]; exact h2, fun rest i hi => (h3 rest i hi).mono (fun o ho => ho.up hT g)⟩
theorem NtG.none [DecidableEq Ob] {E : Sp.Env} {v : iST} (h : v.1 26 = 0) : NtG E v := ⟨[], NzL.nil, by rw [h]; exact ⟨rfl, by decide⟩, NtsOk.nil⟩
theorem NtG.add [DecidableEq Ob] {n r : Nat → Bool} {E : Sp.Env} {v w : iST} {t' : List Sz.Nt} (h : NtG E v) (hT : CT v) (g : CG n r v w) (h52 : ∀ i, i < 5 * v.1 26 → w.2.1 52 i = v.2.1 52 i) (hl : v.1 26 + (t'.length : Int) = w.1 26 ∧ w.1 26 ≤ 1000) (hN : NzL E w (v.1 26) t') (hR : ∀ rest, NtsOk (RpN (ExT w) E) t' rest) : NtG E w := by
  obtain ⟨t, h1, h2, h3⟩ := h
  refine ⟨t ++ t', NzL.app (h1.up hT g (by omega) (fun i _ hi => h52 i (by omega))) ?_, ⟨by rw [List.length_append]; omega, hl.2⟩, fun rest => NtsOk.app (fun i hi => (h3 (t' ++ rest) i hi).mono (fun o ho => ho.up hT g)) (hR rest)⟩
  rw [show (0 : Int) + (t.length : Int) = v.1 26 by omega]
  exact hN
theorem NtG.addR [DecidableEq Ob] {n r : Nat → Bool} {E : Sp.Env} {v w : iST} (h : NtG E v) (hT : CT v) (g : CG n r v w) (h52 : ∀ i, i < 5 * v.1 26 → w.2.1 52 i = v.2.1 52 i) (nr : NtR E v w) : NtG E w := by
  obtain ⟨t', h1, h2, h3⟩ := nr
  exact h.add hT g h52 h1 h2 h3
