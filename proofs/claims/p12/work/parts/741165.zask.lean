-- deps: 7999863
/-! the replay, the class: terms are asked, ended; r (what an ask does) and how a frame ends are given -/
/-- what rewriting changes; where notes are asked again, the next note too -/
def f8Zz (B : Sz.Bx) (k : Nat) : Bool := (B.2.1.isNone && decide (k = 28)) || f8Jn k
def f8Yz (k : Nat) : Bool := f8Jn k || decide (k = 28)
theorem f8Jn_Z [DecidableEq Ob] {B : Sz.Bx} : ∀ k, f8Zz B k = false → f8Jn k = false := fun k h => by unfold f8Zz at h; rw [Bool.or_eq_false_iff] at h; exact h.2
theorem f8Jn_Y [DecidableEq Ob] : ∀ k, f8Yz k = false → f8Jn k = false := fun k h => by unfold f8Yz at h; rw [Bool.or_eq_false_iff] at h; exact h.1
theorem f8Z_Y [DecidableEq Ob] {B : Sz.Bx} : ∀ k, f8Yz k = false → f8Zz B k = false := fun k h => by
  unfold f8Yz at h
  rw [Bool.or_eq_false_iff] at h
  unfold f8Zz
  rw [h.1, h.2, Bool.and_false]; rfl
theorem f8B_Z [DecidableEq Ob] {B : Sz.Bx} : ∀ k, f8Zz B k = false → f8B k = false := fun k h => f8B_J k (f8Jn_Z k h)
theorem f8M_Z [DecidableEq Ob] {B : Sz.Bx} : ∀ k, f8Zz B k = false → f8M k = false := fun k h => f8M_J k (f8Jn_Z k h)
theorem f8S_Z [DecidableEq Ob] {B : Sz.Bx} : ∀ k, f8Zz B k = false → f8S k = false := fun k h => f8S_J k (f8Jn_Z k h)
theorem f8T_Z [DecidableEq Ob] {B : Sz.Bx} : ∀ k, f8Zz B k = false → f8T k = false := fun k h => f8T_J k (f8Jn_Z k h)
theorem f8b_Yz [DecidableEq Ob] : ∀ k, f8Yz k = false → f8b k = false := fun k h => f8b_J k (f8Jn_Y k h)
theorem f8Zn_f [DecidableEq Ob] {B : Sz.Bx} {k : Nat} (h : f8Jn k = false) (h2 : k ≠ 28) : f8Zz B k = false := by
  unfold f8Zz
  rw [h, decide_eq_false h2, Bool.and_false]; rfl
theorem f8Zn_t [DecidableEq Ob] {B : Sz.Bx} {k : Nat} (h : f8Jn k = true) : f8Zz B k = true := by
  unfold f8Zz
  rw [h, Bool.or_true]
/-- what notes are passed over when they are asked again -/
def zz [DecidableEq Ob] (B : Sz.Bx) (n : Nat → Int) : Int := match B.2.1 with | some _ => 0 | none => n 28
theorem zz_eq [DecidableEq Ob] {B : Sz.Bx} {m n : Nat → Int} (h : m 28 = n 28) : zz B m = zz B n := by unfold zz; rw [h]
theorem zsE [DecidableEq Ob] {B : Sz.Bx} {w v : iST} (h : w.1 31 = v.1 31) (h' : w.1 28 = v.1 28) : w.1 31 + zz B w.1 = v.1 31 + zz B v.1 := by rw [h, zz_eq h']
theorem TOz.mono [DecidableEq Ob] {n r : Nat → Bool} {u v : iST} {E : Sp.Env} (h : TOz u E) (hT : CT u) (g : CG n r u v) (h1 : v.1 1 = u.1 1) (h25 : v.1 25 = u.1 25) (hr : ∀ k, 5 ≤ k → k ≤ 13 → v.2.1 k = u.2.1 k) (h50 : v.2.1 50 = u.2.1 50) : TOz v E := by
  refine ⟨by rw [h25]; exact h.1, by rw [h25, h1]; exact h.2.1, fun j hj => ?_⟩
  rw [h25] at hj
  obtain ⟨a, ⟨k, ek, t1, t2, t3⟩, b⟩ := h.2.2 j hj
  obtain ⟨m1, m2, m3, m4⟩ := a.mono hT g hr h50
  exact ⟨m1, ⟨k, ek, by rw [m3]; exact t1, by rw [m4]; exact t2, by rw [m2]; exact t3⟩, by rw [hr 13 (by decide) (by decide), m3]; exact b⟩
def EnvZ [DecidableEq Ob] (u : iST) (E : Sp.Env) : Prop := DOz u E ∧ Sp.DWf E ∧ (∀ D, D ∈ E.defs → D.body.sz ≤ 120) ∧ TOz u E
theorem EnvZ.mono [DecidableEq Ob] {u v : iST} {E : Sp.Env} (h : EnvZ u E) (hT : CT u) (g : CG f8Yz f8Jr u v) : EnvZ v E := by
  obtain ⟨h1, h2, h3, h4⟩ := h
  have n : ∀ k, (k ≤ 3 ∨ k = 25) → v.1 k = u.1 k := fun k hk => g.2.2.1 k (by unfold f8Yz f8Jn; simp only [Bool.or_eq_false_iff, decide_eq_false_iff_not]; omega)
  have r : ∀ k, (k ≤ 15 ∨ k = 50) → v.2.1 k = u.2.1 k := fun k hk => g.2.2.2 k (by unfold f8Jr; simp only [Bool.or_eq_false_iff, decide_eq_false_iff_not]; omega)
  exact ⟨h1.mono hT g (n 0 (by omega)) (fun k hk => r k (by omega)), h2, h3, h4.mono hT g (n 1 (by omega)) (n 25 (by omega)) (fun k h1 h2 => r k (by omega)) (r 50 (by omega))⟩
theorem arOf6_z [DecidableEq Ob] {u : iST} {E : Sp.Env} (hD : DOz u E) (f : Ob) : Sp.arOf E f ≤ 6 := by
  have h := arOf6 hD.full f
  unfold Sp.arOf at h ⊢
  by_cases c1 : f = Ob.ifS
  · rw [if_pos c1] at h ⊢; exact h
  rw [if_neg c1] at h ⊢
  by_cases c2 : f = Ob.equal ∨ f = Ob.cons ∨ f = Ob.implies ∨ f = Ob.plus ∨ f = Ob.minus ∨ f = Ob.less
  · rw [if_pos c2] at h ⊢; exact h
  rw [if_neg c2] at h ⊢
  by_cases c3 : Ob.isBase f = true
  · rw [if_pos c3] at h ⊢; exact h
  rw [if_neg c3] at h ⊢
  cases e : E.dfn f with
  | none => show (-1 : Int) ≤ 6; decide
  | some D =>
    cases e' : Sp.Env.dfn (dfsC u, E.2) f with
    | none => have := dfn_none_z hD e'; rw [e] at this; cases this
    | some D' =>
      rw [dfn_some_z hD e e']
      rw [e'] at h
      exact h
def RjK_z [DecidableEq Ob] (B : Sz.Bx) (c : Int) (u v : iST) : Prop := CG (f8Zz B) f8Jr u v ∧ (∀ j, j < 17 * c → v.2.1 51 j = u.2.1 51 j) ∧ u.1 26 ≤ v.1 26 ∧ ∀ j, j < 5 * u.1 26 → v.2.1 52 j = u.2.1 52 j
theorem RjK_z.rf [DecidableEq Ob] {B : Sz.Bx} {c : Int} {u : iST} (h : CT u) : RjK_z B c u u := ⟨CG.rf h, fun _ _ => rfl, Int.le_refl _, fun _ _ => rfl⟩
theorem RjK_z.tr [DecidableEq Ob] {B : Sz.Bx} {c c' : Int} {u v w : iST} (h : RjK_z B c u v) (g : RjK_z B c' v w) (hc : c ≤ c') : RjK_z B c u w := ⟨h.1.tr g.1, fun j hj => (g.2.1 j (by omega)).trans (h.2.1 j hj), Int.le_trans h.2.2.1 g.2.2.1, fun j hj => (g.2.2.2 j (by have := h.2.2.1; omega)).trans (h.2.2.2 j hj)⟩
theorem RjK_z.of [DecidableEq Ob] {B : Sz.Bx} {c : Int} {n r : Nat → Bool} {u v : iST} (g : CG n r u v) (hn : ∀ k, (f8Zz B) k = false → n k = false) (hr : ∀ k, f8Jr k = false → r k = false) (h : r 51 = false) (h26 : n 26 = false := by decide) (h52 : r 52 = false := by decide) : RjK_z B c u v := ⟨g.mono hn hr, fun j _ => by rw [g.2.2.2 51 h], by rw [g.2.2.1 26 h26]; exact Int.le_refl _, fun j _ => by rw [g.2.2.2 52 h52]⟩
/-- the innermost frame: its term, goal, row, the note that it ends -/
def FrJ_z [DecidableEq Ob] (B : Sz.Bx) (c x g row : Int) (v : iST) : Prop := v.1 23 = c + 1 ∧ v.2.1 51 (17 * c + 0) = x ∧ v.2.1 51 (17 * c + 1) = g ∧ v.2.1 51 (17 * c + 2) = row ∧ ∀ b, B.2.1 = some b → v.2.1 51 (17 * c + 4) = b - 1
theorem FrJ_z.keep [DecidableEq Ob] {B : Sz.Bx} {c x g row : Int} {v w : iST} (h : FrJ_z B c x g row v) (e23 : w.1 23 = c + 1) (e : ∀ j, (j < 17 * c + 5 ∧ j ≠ 17 * c + 3) → w.2.1 51 j = v.2.1 51 j) : FrJ_z B c x g row w := ⟨e23, by rw [e _ (by omega)]; exact h.2.1, by rw [e _ (by omega)]; exact h.2.2.1, by rw [e _ (by omega)]; exact h.2.2.2.1, fun b hb => by rw [e _ (by omega)]; exact h.2.2.2.2 b hb⟩
theorem fr_set_z [DecidableEq Ob] {B : Sz.Bx} {c i y : Int} {v w : iST} (hT : CT v) (ew : w = iA v 51 (17 * c + i) y) (i3 : 3 ≤ i) : RjK_z B c v w ∧ w.1 = v.1 ∧ w.2.2 = v.2.2 ∧ (∀ k, k ≠ 51 → w.2.1 k = v.2.1 k) ∧ (∀ j, j ≠ 17 * c + i → w.2.1 51 j = v.2.1 51 j) ∧ w.2.1 51 (17 * c + i) = y := by
  have h51 : ∀ j, w.2.1 51 j = if j = 17 * c + i then y else v.2.1 51 j := fun j => by rw [ew]; rfl
  refine ⟨⟨by rw [ew]; exact CG_A hT (by omega) (by decide), fun j hj => by rw [h51, if_neg (by omega)], by rw [ew]; exact Int.le_refl _, fun j _ => by rw [ew]; rfl⟩, by rw [ew]; rfl, by rw [ew]; rfl, fun k hk => by rw [ew]; exact if_neg hk, fun j hj => by rw [h51, if_neg hj], by rw [h51, if_pos rfl]⟩
/-- a place of a frame is set: nothing else -/
theorem PdK_z.set [DecidableEq Ob] {α : Type} {δ : Nat} {B : Sz.Bx} {c : Int} {u v w : iST} {R : EStateM.Result Unit Sz.Wk α} {m : Sz.M α} (h : PdK_z B δ (f8Zz B) f8Jr u v R m) (k : RjK_z B c v w) (e : w.1 = v.1) (hr : ∀ k, k ≠ 51 → w.2.1 k = v.2.1 k) : PdK_z B δ (f8Zz B) f8Jr u w R m := h.on k.1 (fun _ q => q) (fun _ q => q) (by rw [e]) (by rw [e]) (by rw [e]) (by rw [e]) (by rw [e]) (by rw [e]) (hr 52 (by decide))
def m27 [DecidableEq Ob] (B : Sz.Bx) : Int := match B.2.1 with | some _ => 0 | none => 1
/-- what holds through a whole rewriting -/
def CtJ_z [DecidableEq Ob] {α : Type} (u0 : iST) (E : Sp.Env) (B : Sz.Bx) (R : EStateM.Result Unit Sz.Wk α) (Q : Int → iST → Prop) : Prop := CT u0 ∧ EnvZ u0 E ∧ Fit_z B R ∧ (B.2.2.1 = E ∧ u0.1 27 = m27 B ∧ 0 ≤ zz B u0.1 ∧ u0.1 30 - u0.1 31 ≤ (B.2.2.2.1 : Int) + 1000 ∧ (B.2.1 ≠ none → u0.1 30 ≤ 1000)) ∧ ∀ w s, CG (f8Zz B) f8Jr u0 w → Dd_z B 2000 w s → R = .error () s → Q (-1) w
theorem CtJ_z.env [DecidableEq Ob] {α : Type} {δ : Nat} {u0 v : iST} {E : Sp.Env} {B : Sz.Bx} {R : EStateM.Result Unit Sz.Wk α} {Q : Int → iST → Prop} {m : Sz.M α} (h : CtJ_z u0 E B R Q) (hP : PdK_z B δ (f8Zz B) f8Jr u0 v R m) : EnvZ v E := h.2.1.mono h.1 (hP.1.mono f8Z_Y (fun _ q => q))
theorem CtJ_z.turn [DecidableEq Ob] {α : Type} {δ : Nat} {u0 v : iST} {E : Sp.Env} {B : Sz.Bx} {R : EStateM.Result Unit Sz.Wk α} {Q : Int → iST → Prop} {m : Sz.M α} (h : CtJ_z u0 E B R Q) (hP : PdK_z B δ (f8Zz B) f8Jr u0 v R m) (h32 : v.1 32 = 0) {t : Int} (ht : t ≤ 24 * (v.1 31 + zz B v.1 - (u0.1 31 + zz B u0.1))) : t < 1000000 := by
  obtain ⟨s, hl, _⟩ := hP.live h32
  have e30 : v.1 30 = u0.1 30 := hP.1.2.2.1 30 (f8Zn_f (by decide) (by decide))
  have h2 := hl.2.1
  unfold StS_z StS StC at h2
  have h2 : 0 ≤ v.1 31 ∧ v.1 31 + (s.1 : Int) = v.1 30 := h2
  have h3 := hl.2.2.2.2
  obtain ⟨_, _, c3, c4, _⟩ := h.2.2.2.1
  have hz : zz B v.1 ≤ 1000 := by
    have hm := hl.2.2.2.1
    have a := hm.1
    have b := hm.2.1
    unfold zz
    unfold NzA at a b
    cases e : B.2.1 with
    | some x => show (0 : Int) ≤ 1000; decide
    | none =>
      rw [e] at a b
      have a : 0 ≤ v.1 28 := a
      have b : v.1 28 + (s.2.2.length : Int) = v.1 26 ∧ v.1 26 ≤ 1000 := b
      show v.1 28 ≤ 1000
      omega
  omega
theorem rj_dead_z [DecidableEq Ob] {α : Type} {δ : Nat} {u0 w : iST} {E : Sp.Env} {B : Sz.Bx} {t : Int} {R : EStateM.Result Unit Sz.Wk α} {Q : Int → iST → Prop} {m : Sz.M α} (hC : CtJ_z u0 E B R Q) (hP : PdK_z B δ (f8Zz B) f8Jr u0 w R m) (h : w.1 32 ≠ 0) (hδ : δ ≤ 2000 := by omega) : pv_6_rewritten_20 Q t w := by
  obtain ⟨s, hd, e⟩ := hP.dead h hδ
  have fin : pv_6_rewritten_405 Q w := by
    unfold pv_6_rewritten_405
    intro a ea _
    rw [ea]
    exact ⟨fun _ => hC.2.2.2.2 w s hP.1 hd e, fun z => absurd h z⟩
  refine fo_v_6_rewritten_20 ?_
  unfold pv_6_rewritten_20b
  refine ⟨fun _ => fin, fun _ => ?_⟩
  intro a ea _
  refine ⟨fun _ => fin, fun _ => ?_⟩
  intro b eb _
  rw [eb]
  exact ⟨fun _ => fin, fun z => absurd h z⟩
/-- what is owed when a term that was asked has come out -/
def OwJ_z [DecidableEq Ob] {α : Type} (u0 : iST) (E : Sp.Env) (B : Sz.Bx) (R : EStateM.Result Unit Sz.Wk α) (Q : Int → iST → Prop) (c : Int) (v0 : iST) (T : Int) (K : Ob → Sz.M α) : Prop := ∀ w a t, RjK_z B c v0 w → NdC w E a → w.1 24 = a → w.1 23 = c → w.1 32 = 0 → PdK_z B 0 (f8Zz B) f8Jr u0 w R (K (oc w a)) → t + T ≤ 24 * (w.1 31 + zz B w.1 - (u0.1 31 + zz B u0.1)) → pv_6_rewritten_20 Q t w
/-- asks from depth c do what ρ does -/
def RjG_z [DecidableEq Ob] {α : Type} (u0 : iST) (E : Sp.Env) (B : Sz.Bx) (R : EStateM.Result Unit Sz.Wk α) (Q : Int → iST → Prop) (ρ : List Ob → Ob → Bool → Sz.M Ob) (c : Int) : Prop := ∀ {δ : Nat} (ctx : List Ob) (x g row t T : Int) (v : iST) (K : Ob → Sz.M α) (L : iST → Prop), (∀ w, pv_6_rewritten_20 Q t w → L w) → PdK_z B δ (f8Zz B) f8Jr u0 v R (Sp.bd (ρ ctx (oc v x) (decide (g = 1))) K) → v.1 32 = 0 → (∀ a, Mono_z (K a)) → v.1 23 = c → (g = 0 ∨ g = 1) → NdC v E x → CxC v E row ctx → 0 ≤ T → t + T ≤ 24 * (v.1 31 + zz B v.1 - (u0.1 31 + zz B u0.1)) + 4 → t ≤ 24 * (v.1 31 + zz B v.1 - (u0.1 31 + zz B u0.1)) → OwJ_z u0 E B R Q c v T K → pv_6_ask x g row L v
/-- the frame ends -/
def FnJ [DecidableEq Ob] {α : Type} (u0 : iST) (E : Sp.Env) (B : Sz.Bx) (R : EStateM.Result Unit Sz.Wk α) (Q : Int → iST → Prop) (c x g row : Int) (v0 : iST) (T : Int) (K : Ob → Sz.M α) : Prop := ∀ (a t : Int) (v : iST) (L : iST → Prop), (∀ w, pv_6_rewritten_20 Q t w → L w) → RjK_z B c v0 v → FrJ_z B c x g row v → NdD v E a → PdK_z B 2000 (f8Zz B) f8Jr u0 v R (K (oc v a)) → t + T ≤ 24 * (v.1 31 + zz B v.1 - (u0.1 31 + zz B u0.1)) → pv_6_finish a L v
def FmJ_z [DecidableEq Ob] {α : Type} (u0 : iST) (E : Sp.Env) (B : Sz.Bx) (R : EStateM.Result Unit Sz.Wk α) (Q : Int → iST → Prop) (ρ : List Ob → Ob → Bool → Sz.M Ob) (c x g row : Int) (v0 : iST) (T : Int) (K : Ob → Sz.M α) : Prop := CtJ_z u0 E B R Q ∧ RjG_z u0 E B R Q ρ (c + 1) ∧ FnJ u0 E B R Q c x g row v0 T K ∧ (∀ a, Mono_z (K a)) ∧ 0 ≤ c ∧ (∀ c o t, Mono_z (ρ c o t)) ∧ 0 ≤ T
def StJ_z [DecidableEq Ob] (B : Sz.Bx) (E : Sp.Env) (c x g row : Int) (ctx : List Ob) (v0 v : iST) : Prop := RjK_z B c v0 v ∧ FrJ_z B c x g row v ∧ v.1 32 = 0 ∧ NdC v E x ∧ CxC v E row ctx ∧ (g = 0 ∨ g = 1)
theorem StJ_z.ct [DecidableEq Ob] {B : Sz.Bx} {E : Sp.Env} {c x g row : Int} {ctx : List Ob} {v0 v : iST} (h : StJ_z B E c x g row ctx v0 v) : CT v := h.1.1.1
theorem StJ_z.keep [DecidableEq Ob] {B : Sz.Bx} {E : Sp.Env} {c x g row : Int} {ctx : List Ob} {v0 v w : iST} (h : StJ_z B E c x g row ctx v0 v) (k : RjK_z B (c + 1) v w) (h23 : w.1 23 = c + 1) (h32 : w.1 32 = 0) : StJ_z B E c x g row ctx v0 w := ⟨h.1.tr k (by omega), h.2.1.keep h23 (fun j hj => k.2.1 j (by omega)), h32, (h.2.2.2.1.up h.1.1.1 k.1).1, h.2.2.2.2.1.up h.1.1.1 k.1, h.2.2.2.2.2⟩
theorem StJ_z.gen [DecidableEq Ob] {B : Sz.Bx} {E : Sp.Env} {c x g row : Int} {ctx : List Ob} {v0 v w : iST} {n r : Nat → Bool} (h : StJ_z B E c x g row ctx v0 v) (k : CG n r v w) (hn : ∀ k, (f8Zz B) k = false → n k = false) (hr : ∀ k, f8Jr k = false → r k = false) (n23 : n 23 = false) (r51 : r 51 = false) (h32 : w.1 32 = 0) (h26 : n 26 = false := by decide) (h52 : r 52 = false := by decide) : StJ_z B E c x g row ctx v0 w := h.keep (RjK_z.of k hn hr r51 h26 h52) (by rw [k.2.2.1 23 n23]; exact h.2.1.1) h32
theorem StJ_z.set [DecidableEq Ob] {B : Sz.Bx} {E : Sp.Env} {c x g row i y : Int} {ctx : List Ob} {v0 v w : iST} (h : StJ_z B E c x g row ctx v0 v) (ew : w = iA v 51 (17 * c + i) y) (i3 : 3 ≤ i) (i4 : i ≠ 4 := by first | decide | omega) : StJ_z B E c x g row ctx v0 w := by
  obtain ⟨k1, n1, c1, r1, s1, q1⟩ := fr_set_z (B := B) h.ct ew i3
  exact ⟨h.1.tr k1 (Int.le_refl _), h.2.1.keep (by rw [n1]; exact h.2.1.1) (fun j hj => s1 j (by omega)), by rw [n1]; exact h.2.2.1, (h.2.2.2.1.up h.ct k1.1).1, h.2.2.2.2.1.up h.ct k1.1, h.2.2.2.2.2⟩
section
variable {α : Type} {δ : Nat} {u0 v0 v : iST} {E : Sp.Env} {B : Sz.Bx} {x g row c t T : Int} {R : EStateM.Result Unit Sz.Wk α} {Q : Int → iST → Prop} {K : Ob → Sz.M α} {ρ : List Ob → Ob → Bool → Sz.M Ob} {ctx : List Ob}
/-- a term is asked within the frame -/
theorem fr_ask_z [DecidableEq Ob] {y g' row' k : Int} {ctx' : List Ob} {K' : Ob → Sz.M α} {L : iST → Prop} (hM : FmJ_z u0 E B R Q ρ c x g row v0 T K) (hS : StJ_z B E c x g row ctx v0 v) (ny : NdC v E y) (cx : CxC v E row' ctx') (hg : g' = 0 ∨ g' = 1) (hK : ∀ a, Mono_z (K' a)) (hP : PdK_z B δ (f8Zz B) f8Jr u0 v R (Sp.bd (ρ ctx' (oc v y) (decide (g' = 1))) K')) (k0 : 0 ≤ k) (ht : t + T + k ≤ 24 * (v.1 31 + zz B v.1 - (u0.1 31 + zz B u0.1))) (hL : ∀ w, pv_6_rewritten_20 Q t w → L w)
    (hq : ∀ w b t', StJ_z B E c x g row ctx v0 w → RjK_z B (c + 1) v w → NdC w E b → w.1 24 = b → PdK_z B 0 (f8Zz B) f8Jr u0 w R (K' (oc w b)) → t' + T + k + 4 ≤ 24 * (w.1 31 + zz B w.1 - (u0.1 31 + zz B u0.1)) → pv_6_rewritten_20 Q t' w) : pv_6_ask y g' row' L v := by
  obtain ⟨hC, ih, hO, hK0, c0, hd, hT0⟩ := hM
  refine ih ctx' y g' row' t (T + k + 4) v K' L hL hP hS.2.2.1 hK hS.2.1.1 hg ny cx (by omega) (by omega) (by omega) ?_
  intro w b t' kw nb w24 w23 w32 hPw ht'
  exact hq w b t' (hS.keep kw w23 w32) kw nb w24 hPw (by omega)
theorem fr_fin_z [DecidableEq Ob] {a : Int} {L : iST → Prop} (hM : FmJ_z u0 E B R Q ρ c x g row v0 T K) (hk : RjK_z B c v0 v) (hF : FrJ_z B c x g row v) (na : NdD v E a) (hP : PdK_z B δ (f8Zz B) f8Jr u0 v R (K (oc v a))) (ht : t + T ≤ 24 * (v.1 31 + zz B v.1 - (u0.1 31 + zz B u0.1))) (hL : ∀ w, pv_6_rewritten_20 Q t w → L w) (hδ : δ ≤ 2000 := by omega) : pv_6_finish a L v := hM.2.2.1 a t v L hL hk hF na (hP.w hδ) ht
/-- another term is asked in its place -/
theorem fr_instead_z [DecidableEq Ob] {a : Int} {L : iST → Prop} (hM : FmJ_z u0 E B R Q ρ c x g row v0 T K) (hk : RjK_z B c v0 v) (hF : FrJ_z B c x g row v) (hg : g = 0 ∨ g = 1) (cx : CxC v E row ctx) (na : NdD v E a) (hP : PdK_z B δ (f8Zz B) f8Jr u0 v R (Sp.bd (ρ ctx (oc v a) (decide (g = 1))) K)) (ht : t + T ≤ 24 * (v.1 31 + zz B v.1 - (u0.1 31 + zz B u0.1))) (hL : ∀ w, pv_6_rewritten_20 Q t w → L w) (hδ : δ ≤ 2000 := by omega) : pv_6_askInstead c a L v := by
  have hC := hM.1
  have hT := hP.1.1
  unfold pv_6_askInstead
  intro _ _ y1 e1
  obtain ⟨k1, n1, c1, r1, s1, q1⟩ := fr_set_z (B := B) hT e1 (by decide)
  have hP1 := PdK_z.set hP k1 n1 r1
  have hF1 : FrJ_z B c x g row y1 := hF.keep (by rw [n1]; exact hF.1) (fun j hj => s1 j (by omega))
  have ec : ∀ k, oc y1 k = oc v k := oc_same c1
  intro n32 en32 _
  rw [en32]
  refine ⟨fun z => hL y1 (rj_dead_z hC hP1 z), fun z => ?_⟩
  have z := Decidable.not_not.mp z
  intro _ _ ng eng _ _ _ nr enr _
  rw [eng, hF1.2.2.1, enr, hF1.2.2.2.1]
  have nA := na.2.2 (by rw [n1] at z; exact z)
  obtain ⟨nA', eA'⟩ := nA.up hT k1.1
  have T0 := hM.2.2.2.2.2.2
  refine hM.2.1 ctx a g row t (T + 4) y1 K _ hL (by rw [ec]; exact hP1) z hM.2.2.2.1 hF1.1 hg nA' (cx.up hT k1.1) (by omega) (by rw [n1]; omega) (by rw [n1]; omega) ?_
  intro w b t' kw nb w24 w23 w32 hPw ht'
  have hFw : FrJ_z B c x g row w := hF1.keep w23 (fun j hj => kw.2.1 j (by omega))
  refine hd_1 (c := c) w23 hM.2.2.2.2.1 w32 (hC.turn hPw w32 (by omega)) (by rw [kw.2.1 _ (by omega)]; exact q1) ?_
  rw [w24]
  exact fr_fin_z (t := t' + 1) hM ((hk.tr k1 (Int.le_refl _)).tr kw (by omega)) hFw nb.d hPw (by omega) (fun w h _ => h)
end
