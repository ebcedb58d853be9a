-- deps: 799983
/-! the replay, the class: notes; what is pending -/
def ntC [DecidableEq Ob] (v : iST) (j : Int) : Sz.Nt := (oc v (v.2.1 52 (5 * j + 2)), oc v (v.2.1 52 (5 * j + 0)), decide (v.2.1 52 (5 * j + 1) = 1), oc v (v.2.1 52 (5 * j + 3)), (v.2.1 52 (5 * j + 4) - j - 1).toNat)
def NzV [DecidableEq Ob] (E : Sp.Env) (v : iST) (j : Int) : Prop := (∃ ctx, CxC v E (v.2.1 52 (5 * j + 2)) ctx) ∧ NdC v E (v.2.1 52 (5 * j + 0)) ∧ NdC v E (v.2.1 52 (5 * j + 3)) ∧ (v.2.1 52 (5 * j + 1) = 0 ∨ v.2.1 52 (5 * j + 1) = 1) ∧ j + 1 ≤ v.2.1 52 (5 * j + 4) ∧ v.2.1 52 (5 * j + 4) ≤ v.1 26
def NzL [DecidableEq Ob] (E : Sp.Env) (v : iST) (a : Int) (t : List Sz.Nt) : Prop := ∀ i : Nat, i < t.length → NzV E v (a + (i : Int)) ∧ t[i]? = some (ntC v (a + (i : Int)))
def NzA [DecidableEq Ob] (B : Sz.Bx) (v : iST) : Int := match B.2.1 with | some b => b | none => v.1 28
def NzM [DecidableEq Ob] (B : Sz.Bx) (v : iST) (t : List Sz.Nt) : Prop := 0 ≤ NzA B v ∧ (NzA B v + (t.length : Int) = v.1 26 ∧ v.1 26 ≤ 1000) ∧ ((B.2.1 ≠ none → v.1 26 ≤ v.1 31) ∧ (B.2.1 = none → v.1 26 = B.2.2.2.2.2)) ∧ NzL B.2.2.1 v (NzA B v) t
theorem NzV.up [DecidableEq Ob] {n r : Nat → Bool} {E : Sp.Env} {v w : iST} {j : Int} (h : NzV E v j) (hT : CT v) (g : CG n r v w) (h26 : v.1 26 ≤ w.1 26) (h52 : ∀ i, 0 ≤ i → i < 5 → w.2.1 52 (5 * j + i) = v.2.1 52 (5 * j + i)) : NzV E w j ∧ ntC w j = ntC v j := by
  obtain ⟨⟨ctx, h1⟩, h2, h3, h4, h5, h6⟩ := h
  have e0 := h52 0 (by decide) (by decide)
  have e1 := h52 1 (by decide) (by decide)
  have e2 := h52 2 (by decide) (by decide)
  have e3 := h52 3 (by decide) (by decide)
  have e4 := h52 4 (by decide) (by decide)
  unfold NzV ntC
  rw [e0, e1, e2, e3, e4]
  refine ⟨⟨⟨ctx, h1.up hT g⟩, (h2.up hT g).1, (h3.up hT g).1, h4, h5, by omega⟩, ?_⟩
  rw [g.oc hT h1.1.1 h1.1.2, (h2.up hT g).2, (h3.up hT g).2]
theorem NzL.up [DecidableEq Ob] {n r : Nat → Bool} {E : Sp.Env} {v w : iST} {a : Int} {t : List Sz.Nt} (h : NzL E v a t) (hT : CT v) (g : CG n r v w) (h26 : v.1 26 ≤ w.1 26) (h52 : ∀ i, 5 * a ≤ i → i < 5 * (a + (t.length : Int)) → w.2.1 52 i = v.2.1 52 i) : NzL E w a t := fun i hi => by
  obtain ⟨h1, h2⟩ := h i hi
  obtain ⟨k1, k2⟩ := h1.up hT g h26 (fun j j0 j1 => h52 _ (by omega) (by omega))
  exact ⟨k1, by rw [k2]; exact h2⟩
theorem NzM.up [DecidableEq Ob] {n r : Nat → Bool} {B : Sz.Bx} {v w : iST} {t : List Sz.Nt} (h : NzM B v t) (hT : CT v) (g : CG n r v w) (h26 : w.1 26 = v.1 26) (h28 : w.1 28 = v.1 28) (h31 : v.1 31 ≤ w.1 31) (h52 : w.2.1 52 = v.2.1 52) : NzM B w t := by
  have e : NzA B w = NzA B v := by unfold NzA; rw [h28]
  obtain ⟨a, b, c, d⟩ := h
  refine ⟨by rw [e]; exact a, by rw [e, h26]; exact b, ⟨fun z => by have := c.1 z; omega, fun z => by rw [h26]; exact c.2 z⟩, ?_⟩
  rw [e]
  exact d.up hT g (by rw [h26]; exact Int.le_refl _) (fun i _ _ => by rw [h52])
/-- there is room for what is made, and STEPS stay; where notes are asked again, nothing fails -/
def Fit_z [DecidableEq Ob] {α : Type} (B : Sz.Bx) (R : EStateM.Result Unit Sz.Wk α) : Prop := FitC B (coR R) ∧ (match R with | .ok _ s => B.2.2.2.1 ≤ s.1 | .error _ _ => B.2.2.2.1 = 0 ∧ B.2.1 ≠ none)
/-- STEPS stay also before the end -/
theorem Fit_z.low [DecidableEq Ob] {α : Type} {B : Sz.Bx} {m : Sz.M α} {s : Sz.Wk} (h : Fit_z B (m s)) (hm : Mono_z m) : B.2.2.2.1 ≤ s.1 := by
  have h1 := (hm s).2
  have h2 := h.2
  cases e : m s with
  | ok a s1 =>
    rw [e] at h1 h2
    have h1 : s1.1 ≤ s.1 := h1
    have h2 : B.2.2.2.1 ≤ s1.1 := h2
    omega
  | error x s1 =>
    rw [e] at h2
    have h2 : B.2.2.2.1 = 0 ∧ B.2.1 ≠ none := h2
    have := h2.1
    omega
theorem Fit_z.bd [DecidableEq Ob] {α β : Type} {B : Sz.Bx} {m : Sz.M α} {k : α → Sz.M β} {s : Sz.Wk} (h : Fit_z B (Sp.bd m k s)) (g : ∀ a, Mono_z (k a)) : Fit_z B (m s) := by
  cases e : m s with
  | ok a s1 =>
    rw [bind_ok e] at h
    have l := h.low (g a)
    exact ⟨h.1.dn (g a s1).1, l⟩
  | error x s1 =>
    rw [bind_err e] at h
    exact h
def StS_z [DecidableEq Ob] (u : iST) (s : Sz.Wk) : Prop := StS u (s.1, 0)
theorem StS_z.cg [DecidableEq Ob] {n r : Nat → Bool} {u v : iST} {s : Sz.Wk} (h : StS_z u s) (g : CG n r u v) (h30 : n 30 = false) (h31 : n 31 = false) {s' : Sz.Wk} (e : s'.1 = s.1) : StS_z v s' := StS.cg h g h30 h31 e
def Lv_z [DecidableEq Ob] (B : Sz.Bx) (u : iST) (s : Sz.Wk) : Prop := u.1 32 = 0 ∧ StS_z u s ∧ Rm B u s.2.1 ∧ NzM B u s.2.2 ∧ B.2.2.2.1 ≤ s.1
def Dd_z [DecidableEq Ob] (B : Sz.Bx) (δ : Nat) (u : iST) (s : Sz.Wk) : Prop := u.1 32 ≠ 0 ∧ StS_z u s ∧ (B.2.1 ≠ none → u.1 29 ≤ B.1 + (s.2.1.1 : Int) + (δ : Int))
theorem Dd_z.up [DecidableEq Ob] {B : Sz.Bx} {δ δ' : Nat} {u : iST} {s : Sz.Wk} (h : Dd_z B δ u s) (hδ : δ ≤ δ' := by omega) : Dd_z B δ' u s := ⟨h.1, h.2.1, fun z => by have := h.2.2 z; omega⟩
def PdK_z [DecidableEq Ob] {α : Type} (B : Sz.Bx) (δ : Nat) (n r : Nat → Bool) (u v : iST) (R : EStateM.Result Unit Sz.Wk α) (m : Sz.M α) : Prop := CG n r u v ∧ ((∃ s, Lv_z B v s ∧ R = m s) ∨ ∃ s, Dd_z B δ v s ∧ R = .error () s)
theorem PdK_z.live [DecidableEq Ob] {α : Type} {δ : Nat} {B : Sz.Bx} {n r : Nat → Bool} {u v : iST} {R : EStateM.Result Unit Sz.Wk α} {m : Sz.M α} (h : PdK_z B δ n r u v R m) (z : v.1 32 = 0) : ∃ s, Lv_z B v s ∧ R = m s := by
  rcases h.2 with q | ⟨s, q, _⟩
  · exact q
  · exact absurd z q.1
theorem PdK_z.dead [DecidableEq Ob] {α : Type} {δ δ' : Nat} {B : Sz.Bx} {n r : Nat → Bool} {u v : iST} {R : EStateM.Result Unit Sz.Wk α} {m : Sz.M α} (h : PdK_z B δ n r u v R m) (z : v.1 32 ≠ 0) (hδ : δ ≤ δ' := by omega) : ∃ s, Dd_z B δ' v s ∧ R = .error () s := by
  rcases h.2 with ⟨s, q, _⟩ | ⟨s, q, e⟩
  · exact absurd q.1 z
  · exact ⟨s, q.up hδ, e⟩
theorem PdK_z.zero [DecidableEq Ob] {α : Type} {δ δ' : Nat} {B : Sz.Bx} {n r : Nat → Bool} {u v : iST} {R : EStateM.Result Unit Sz.Wk α} {m : Sz.M α} (h : PdK_z B δ n r u v R m) (z : v.1 32 = 0) : PdK_z B δ' n r u v R m := ⟨h.1, Or.inl (h.live z)⟩
theorem PdK_z.w [DecidableEq Ob] {α : Type} {δ δ' : Nat} {B : Sz.Bx} {n r : Nat → Bool} {u v : iST} {R : EStateM.Result Unit Sz.Wk α} {m : Sz.M α} (h : PdK_z B δ n r u v R m) (hδ : δ ≤ δ' := by omega) : PdK_z B δ' n r u v R m := by
  refine ⟨h.1, ?_⟩
  rcases h.2 with q | ⟨s, q, e⟩
  · exact Or.inl q
  · exact Or.inr ⟨s, q.up hδ, e⟩
theorem PdK_z.st [DecidableEq Ob] {α : Type} {δ : Nat} {B : Sz.Bx} {n r : Nat → Bool} {u v : iST} {R : EStateM.Result Unit Sz.Wk α} {m : Sz.M α} (h : PdK_z B δ n r u v R m) : ∃ k : Nat, StS v (k, 0) := by
  rcases h.2 with ⟨s, q, _⟩ | ⟨s, q, _⟩
  · exact ⟨s.1, q.2.1⟩
  · exact ⟨s.1, q.2.1⟩
theorem PdK_z.step [DecidableEq Ob] {α β : Type} {δ : Nat} {B : Sz.Bx} {n r : Nat → Bool} {u v w : iST} {R : EStateM.Result Unit Sz.Wk α} {m : Sz.M β} {k : β → Sz.M α} {o : β} (h : PdK_z B δ n r u v R (Sp.bd m k)) (g : CG f8B f8W v w) (hn : ∀ k, n k = false → f8B k = false) (hr : ∀ k, r k = false → f8W k = false) (hd : v.1 32 ≠ 0 → w.1 32 ≠ 0) (h29 : w.1 29 ≤ v.1 29 + 600)
    (hs : ∀ s, Lv_z B v s → (w.1 32 = 0 → ∃ s', m s = .ok o s' ∧ s'.1 = s.1 ∧ Rm B w s'.2.1 ∧ s'.2.2 = s.2.2) ∧ (w.1 32 ≠ 0 → ∃ s', m s = .error () s' ∧ s'.1 = s.1 ∧ s.2.1.1 ≤ s'.2.1.1)) : PdK_z B (δ + 600) n r u w R (k o) := by
  have hT := h.1.1
  refine ⟨h.1.tr (g.mono hn hr), ?_⟩
  rcases h.2 with ⟨s, hl, e⟩ | ⟨s, hl, e⟩
  · obtain ⟨a, b⟩ := hs s hl
    by_cases z : w.1 32 = 0
    · obtain ⟨s', e1, e2, e3, e4⟩ := a z
      refine Or.inl ⟨s', ⟨z, hl.2.1.cg g (by decide) (by decide) e2, e3, ?_, by rw [e2]; exact hl.2.2.2.2⟩, by rw [e]; exact bind_ok e1⟩
      rw [e4]
      exact hl.2.2.2.1.up hT g (g.2.2.1 26 (by decide)) (g.2.2.1 28 (by decide)) (by rw [g.2.2.1 31 (by decide)]; exact Int.le_refl _) (g.2.2.2 52 (by decide))
    · obtain ⟨s', e1, e2, e3⟩ := b z
      exact Or.inr ⟨s', ⟨z, hl.2.1.cg g (by decide) (by decide) e2, fun q => by have := hl.2.2.1.2.1 q; omega⟩, by rw [e]; exact bind_err e1⟩
  · exact Or.inr ⟨s, ⟨hd hl.1, hl.2.1.cg g (by decide) (by decide) rfl, fun q => by have := hl.2.2 q; omega⟩, e⟩
/-- nothing but marks changes -/
theorem PdK_z.on [DecidableEq Ob] {α : Type} {δ : Nat} {B : Sz.Bx} {n r n' r' : Nat → Bool} {u v w : iST} {R : EStateM.Result Unit Sz.Wk α} {m : Sz.M α} (h : PdK_z B δ n r u v R m) (g : CG n' r' v w) (hn : ∀ k, n k = false → n' k = false) (hr : ∀ k, r k = false → r' k = false) (h29 : w.1 29 = v.1 29) (h30 : w.1 30 = v.1 30) (h31 : w.1 31 = v.1 31) (h32 : w.1 32 = v.1 32) (h26 : w.1 26 = v.1 26) (h28 : w.1 28 = v.1 28) (h52 : w.2.1 52 = v.2.1 52) : PdK_z B δ n r u w R m := by
  have hT := h.1.1
  refine ⟨h.1.tr (g.mono hn hr), ?_⟩
  rcases h.2 with ⟨s, hl, e⟩ | ⟨s, hl, e⟩
  · exact Or.inl ⟨s, ⟨by rw [h32]; exact hl.1, by have := hl.2.1; unfold StS_z StS StC at this ⊢; rw [h30, h31]; exact this, hl.2.2.1.up hT g h29, hl.2.2.2.1.up hT g h26 h28 (by rw [h31]; exact Int.le_refl _) h52, hl.2.2.2.2⟩, e⟩
  · exact Or.inr ⟨s, ⟨by rw [h32]; exact hl.1, by have := hl.2.1; unfold StS_z StS StC at this ⊢; rw [h30, h31]; exact this, fun q => by rw [h29]; exact hl.2.2 q⟩, e⟩
theorem PdK_z.retd [DecidableEq Ob] {α : Type} {δ : Nat} {B : Sz.Bx} {n r : Nat → Bool} {u v : iST} {R : EStateM.Result Unit Sz.Wk α} {x : Ob} {K : Ob → Sz.M α} (h : PdK_z B δ n r u v R (Sp.bd (Sz.ret x) K)) : PdK_z B δ n r u v R (K x) := h
theorem bigz_ok [DecidableEq Ob] {o : Ob} {n : Nat} {s : Sz.Wk} (h : o.sz ≤ 120) : Sz.big o n s = .ok o (s.1, Sz.ad s.2.1 o n, s.2.2) := by
  unfold Sz.big
  rw [if_neg (by omega)]
theorem bigz_err [DecidableEq Ob] {o : Ob} {n : Nat} {s : Sz.Wk} (h : 120 < o.sz) : Sz.big o n s = .error () (s.1, (s.2.1.1 + n, s.2.1.2), s.2.2) := by
  unfold Sz.big
  rw [if_pos h]
/-- room for what is made, or it is there -/
theorem PdK_z.room [DecidableEq Ob] {α : Type} {δ : Nat} {B : Sz.Bx} {n r : Nat → Bool} {u v : iST} {R : EStateM.Result Unit Sz.Wk α} {o : Ob} {c : Nat} {k : Ob → Sz.M α} (h : PdK_z B δ n r u v R (Sp.bd (Sz.big o c) k)) (fit : Fit_z B R) (hk : ∀ a, Mono_z (k a)) (z : v.1 32 = 0) : v.1 29 + (c : Int) ≤ 160000 ∨ (ExT v o ∧ o.sz ≤ 120) := by
  obtain ⟨s, hl, e⟩ := h.live z
  rw [e] at fit
  have f2 := fit.bd hk
  by_cases q : 120 < o.sz
  · rw [bigz_err q] at f2
    have f3 : B.2.2.2.1 = 0 ∧ B.2.1 ≠ none := f2.2
    have f4 : B.1 + ((s.2.1.1 + c : Nat) : Int) ≤ 160000 := f2.1.1 f3.2
    have := hl.2.2.1.2.1 f3.2
    exact Or.inl (by omega)
  · rw [bigz_ok (by omega)] at f2
    rcases hl.2.2.1.room (k := c) f2.1 with y | y
    · exact Or.inl y
    · exact Or.inr ⟨y, by omega⟩
theorem PdK_z.payroom [DecidableEq Ob] {α : Type} {δ : Nat} {B : Sz.Bx} {n r : Nat → Bool} {u v : iST} {R : EStateM.Result Unit Sz.Wk α} {o : Ob} {c : Nat} {m : Unit → Sz.M α} (h : PdK_z B δ n r u v R (Sp.bd (Sz.pay o c) m)) (fit : Fit_z B R) (hm : Mono_z (m ())) (z : v.1 32 = 0) : v.1 29 + (c : Int) ≤ 160000 ∨ ExT v o := by
  obtain ⟨s, hl, e⟩ := h.live z
  rw [e] at fit
  have fit : Fit_z B (m () (s.1, Sz.ad s.2.1 o c, s.2.2)) := fit
  exact hl.2.2.1.room (fit.1.dn (hm (s.1, Sz.ad s.2.1 o c, s.2.2)).1)
theorem PdK_z.pays [DecidableEq Ob] {α : Type} {δ : Nat} {B : Sz.Bx} {n r : Nat → Bool} {u v w : iST} {R : EStateM.Result Unit Sz.Wk α} {o : Ob} {c : Nat} {m : Unit → Sz.M α} (h : PdK_z B δ n r u v R (Sp.bd (Sz.pay o c) m)) (g : CG f8M f8R v w) (hn : ∀ k, n k = false → f8B k = false) (hr : ∀ k, r k = false → f8W k = false) (ho : ExT w o) (h29 : w.1 29 ≤ v.1 29 + (c : Int)) (hx : ExT v o → w.1 29 = v.1 29) (hc6 : c ≤ 600 := by decide) : PdK_z B (δ + 600) n r u w R (m ()) := by
  have e32 : w.1 32 = v.1 32 := g.2.2.1 32 (by decide)
  refine PdK_z.step h (g.mono f8M_B f8R_W) hn hr (fun z => by rw [e32]; exact z) (by omega) (fun s hl => ⟨fun _ => ⟨_, rfl, rfl, hl.2.2.1.made h.1.1 g ho h29 hx, rfl⟩, fun z => absurd (by rw [e32]; exact hl.1) z⟩)
/-- one thing is made: it is there, or the work has failed -/
theorem PdK_z.made [DecidableEq Ob] {α : Type} {δ : Nat} {B : Sz.Bx} {n r : Nat → Bool} {u v w : iST} {R : EStateM.Result Unit Sz.Wk α} {o : Ob} {c : Nat} {t : Int} {K : Ob → Sz.M α} (h : PdK_z B δ n r u v R (Sp.bd (Sz.big o c) K)) (hn : ∀ k, n k = false → f8B k = false) (hr : ∀ k, r k = false → f8W k = false) (g : CG f8B f8W v w) (hd : v.1 32 ≠ 0 → w.1 32 ≠ 0) (h29 : w.1 29 ≤ v.1 29 + 600)
    (ha : v.1 32 = 0 → w.1 32 = 0 → VN w t ∧ oc w t = o ∧ o.sz ≤ 120 ∧ w.1 29 ≤ v.1 29 + (c : Int) ∧ (ExT v o → w.1 29 = v.1 29)) (hb : v.1 32 = 0 → w.1 32 ≠ 0 → 120 < o.sz) : PdK_z B (δ + 600) n r u w R (K (oc w t)) := by
  refine PdK_z.step (o := oc w t) h g hn hr hd h29 (fun s hl => ⟨fun z => ?_, fun z => ⟨_, bigz_err (hb hl.1 z), rfl, Nat.le_add_right _ _⟩⟩)
  obtain ⟨a1, a2, a3, a4, a5⟩ := ha hl.1 z
  exact ⟨(s.1, Sz.ad s.2.1 o c, s.2.2), by rw [a2]; exact bigz_ok a3, rfl, hl.2.2.1.made h.1.1 g ⟨t, a1, a2⟩ a4 a5, rfl⟩
