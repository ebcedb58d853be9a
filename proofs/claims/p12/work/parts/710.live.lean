-- deps: 7095
/-! the class: work that goes on, work that has failed; nodes are counted -/
def cntR [DecidableEq Ob] {α : Type} (R : EStateM.Result Unit Sp.Wk α) : Nat := match R with | .ok _ s => s.2 | .error _ s => s.2
/-- the nodes made stay below the room -/
def Fit [DecidableEq Ob] {α : Type} (B : Int) (R : EStateM.Result Unit Sp.Wk α) : Prop := B + (cntR R : Int) ≤ 160000
/-- what is made is never less -/
def Mono [DecidableEq Ob] {α : Type} (m : Sp.M α) : Prop := ∀ s, s.2 ≤ cntR (m s)
theorem Mono.ret [DecidableEq Ob] {α : Type} {a : α} : Mono (Sp.ret a) := fun _ => Nat.le_refl _
theorem Mono.fail [DecidableEq Ob] {α : Type} : Mono (Sp.fail (α := α)) := fun _ => Nat.le_refl _
theorem Mono.pay [DecidableEq Ob] {n : Nat} : Mono (Sp.pay n) := fun s => Nat.le_add_right s.2 n
theorem Mono.tick [DecidableEq Ob] : Mono Sp.tick := fun s => by
  unfold Sp.tick
  split <;> exact Nat.le_refl _
theorem Mono.big [DecidableEq Ob] {o : Ob} {n : Nat} : Mono (Sp.big o n) := fun s => by
  unfold Sp.big
  split <;> exact Nat.le_add_right s.2 n
theorem Mono.bd [DecidableEq Ob] {α β : Type} {m : Sp.M α} {k : α → Sp.M β} (h : Mono m) (g : ∀ a, Mono (k a)) : Mono (Sp.bd m k) := fun s => by
  have h1 := h s
  cases e : m s with
  | ok a s1 =>
    rw [bind_ok e]
    rw [e] at h1
    exact Nat.le_trans h1 (g a s1)
  | error x s1 =>
    rw [bind_err e]
    rw [e] at h1
    exact h1
theorem Mono.ite [DecidableEq Ob] {α : Type} {c : Prop} [Decidable c] {m n : Sp.M α} (h : Mono m) (g : Mono n) : Mono (if c then m else n) := by
  split
  · exact h
  · exact g
theorem Mono.not [DecidableEq Ob] {o : Ob} : Mono (Sp.mkNot o) := by
  unfold Sp.mkNot
  exact Mono.ite Mono.ret (Mono.ite Mono.ret (Mono.ite Mono.ret Mono.big))
theorem Fit.bd [DecidableEq Ob] {α β : Type} {B : Int} {m : Sp.M α} {k : α → Sp.M β} {s : Sp.Wk} (h : Fit B (Sp.bd m k s)) (g : ∀ a, Mono (k a)) : Fit B (m s) := by
  unfold Fit at h ⊢
  cases e : m s with
  | ok a s1 =>
    rw [bind_ok e] at h
    have := g a s1
    show B + (s1.2 : Int) ≤ 160000
    omega
  | error x s1 =>
    rw [bind_err e] at h
    exact h
def StS [DecidableEq Ob] (u : iST) (s : Sp.Wk) : Prop := 0 ≤ u.1 31 ∧ StC u s
theorem pc_stepS [DecidableEq Ob] {Q : Int → iST → Prop} {u : iST} {s : Sp.Wk} (hT : CT u) (hs : StS u s)
    (hok : ∀ v, CG f8S f80 u v → v.1 32 = u.1 32 → s.1 ≠ 0 → Sp.tick s = .ok () (s.1 - 1, s.2) → StS v (s.1 - 1, s.2) → v.1 31 = u.1 31 + 1 → Q 1 v) (hno : ∀ v, CG f8S f80 u v → v.1 32 ≠ 0 → s.1 = 0 → Sp.tick s = .error () s → StS v s → v.1 31 = u.1 31 → Q 0 v) : pv_7_step Q u := by
  refine pc_step hT hs.2 (fun v g v32 s0 ht hv => ?_) (fun v g v32 s0 ht hv => ?_)
  · have h1 := hs.2
    have h2 := hv
    unfold StC at h1 h2
    rw [g.2.2.1 30 (by decide)] at h2
    have h2 : v.1 31 + ((s.1 - 1 : Nat) : Int) = u.1 30 := h2
    have h0 := hs.1
    have e : v.1 31 = u.1 31 + 1 := by omega
    exact hok v g v32 s0 ht ⟨by omega, hv⟩ e
  · have h1 := hs.2
    have h2 := hv
    unfold StC at h1 h2
    rw [g.2.2.1 30 (by decide)] at h2
    have h0 := hs.1
    have e : v.1 31 = u.1 31 := by omega
    exact hno v g v32 s0 ht ⟨by omega, hv⟩ e
def Lv [DecidableEq Ob] (B : Int) (u : iST) (s : Sp.Wk) : Prop := u.1 32 = 0 ∧ StS u s ∧ u.1 29 ≤ B + (s.2 : Int)
def Dd [DecidableEq Ob] (u : iST) (s : Sp.Wk) : Prop := u.1 32 ≠ 0 ∧ StS u s
theorem StS.cg [DecidableEq Ob] {n r : Nat → Bool} {u v : iST} {s : Sp.Wk} (h : StS u s) (g : CG n r u v) (h30 : n 30 = false) (h31 : n 31 = false) {s' : Sp.Wk} (e : s'.1 = s.1) : StS v s' := by
  unfold StS StC at h ⊢
  rw [g.2.2.1 30 h30, g.2.2.1 31 h31, e]
  exact h
/-- a term at a node -/
def NdC [DecidableEq Ob] (u : iST) (E : Sp.Env) (k : Int) : Prop := VN u k ∧ Ob.wt (Sp.arOf E) (oc u k) ∧ (oc u k).sz ≤ 120
theorem NdC.up [DecidableEq Ob] {n r : Nat → Bool} {u v : iST} {E : Sp.Env} {k : Int} (h : NdC u E k) (hT : CT u) (g : CG n r u v) : NdC v E k ∧ oc v k = oc u k := by
  obtain ⟨a, b, c⟩ := h
  have e := g.oc hT a.1 a.2
  exact ⟨⟨a.up g, by rw [e]; exact b, by rw [e]; exact c⟩, e⟩
/-- what is pending: R is what m comes to from here, or the work has failed -/
def PdK [DecidableEq Ob] {α : Type} (B : Int) (n r : Nat → Bool) (u v : iST) (R : EStateM.Result Unit Sp.Wk α) (m : Sp.M α) : Prop := CG n r u v ∧ ((∃ s, Lv B v s ∧ R = m s) ∨ ∃ s, Dd v s ∧ R = .error () s)
/-- a node of a term, if the work goes on -/
def NdD [DecidableEq Ob] (u : iST) (E : Sp.Env) (k : Int) : Prop := -1 ≤ k ∧ k < u.1 29 ∧ (u.1 32 = 0 → NdC u E k)
theorem NdC.d [DecidableEq Ob] {u : iST} {E : Sp.Env} {k : Int} (h : NdC u E k) : NdD u E k := ⟨by have := h.1.1; omega, h.1.2, fun _ => h⟩
theorem NdD.up [DecidableEq Ob] {n r : Nat → Bool} {u v : iST} {E : Sp.Env} {k : Int} (h : NdD u E k) (hT : CT u) (g : CG n r u v) (h32 : u.1 32 ≠ 0 → v.1 32 ≠ 0) : NdD v E k := by
  obtain ⟨a, b, c⟩ := h
  have := g.le
  refine ⟨a, by omega, fun z => ?_⟩
  have z0 : u.1 32 = 0 := by
    by_cases q : u.1 32 = 0
    · exact q
    · exact absurd z (h32 q)
  exact ((c z0).up hT g).1
theorem PdK.live [DecidableEq Ob] {α : Type} {B : Int} {n r : Nat → Bool} {u v : iST} {R : EStateM.Result Unit Sp.Wk α} {m : Sp.M α} (h : PdK B n r u v R m) (z : v.1 32 = 0) : ∃ s, Lv B v s ∧ R = m s := by
  rcases h.2 with q | ⟨s, q, _⟩
  · exact q
  · exact absurd z q.1
theorem PdK.dead [DecidableEq Ob] {α : Type} {B : Int} {n r : Nat → Bool} {u v : iST} {R : EStateM.Result Unit Sp.Wk α} {m : Sp.M α} (h : PdK B n r u v R m) (z : v.1 32 ≠ 0) : ∃ s, Dd v s ∧ R = .error () s := by
  rcases h.2 with ⟨s, q, _⟩ | q
  · exact absurd q.1 z
  · exact q
/-- one thing is made: it is there, or the work has failed -/
theorem PdK.step [DecidableEq Ob] {α : Type} {B : Int} {n r : Nat → Bool} {u v w : iST} {R : EStateM.Result Unit Sp.Wk α} {m : Sp.M Ob} {k : Ob → Sp.M α} {o : Ob} (h : PdK B n r u v R (Sp.bd m k)) (g : CG f8B f8W v w) (hn : ∀ k, n k = false → f8B k = false) (hr : ∀ k, r k = false → f8W k = false) (hd : v.1 32 ≠ 0 → w.1 32 ≠ 0)
    (hs : ∀ s, Lv B v s → (w.1 32 = 0 → ∃ s', m s = .ok o s' ∧ s'.1 = s.1 ∧ w.1 29 ≤ B + (s'.2 : Int)) ∧ (w.1 32 ≠ 0 → ∃ s', m s = .error () s' ∧ s'.1 = s.1)) : PdK B n r u w R (k o) := by
  refine ⟨h.1.tr (g.mono hn hr), ?_⟩
  rcases h.2 with ⟨s, hl, e⟩ | ⟨s, hl, e⟩
  · obtain ⟨a, b⟩ := hs s hl
    by_cases z : w.1 32 = 0
    · obtain ⟨s', e1, e2, e3⟩ := a z
      exact Or.inl ⟨s', ⟨z, hl.2.1.cg g (by decide) (by decide) e2, e3⟩, by rw [e]; exact bind_ok e1⟩
    · obtain ⟨s', e1, e2⟩ := b z
      exact Or.inr ⟨s', ⟨z, hl.2.1.cg g (by decide) (by decide) e2⟩, by rw [e]; exact bind_err e1⟩
  · exact Or.inr ⟨s, ⟨hd hl.1, hl.2.cg g (by decide) (by decide) rfl⟩, e⟩
/-- nothing but nodes and marks changes -/
theorem PdK.on [DecidableEq Ob] {α : Type} {B : Int} {n r n' r' : Nat → Bool} {u v w : iST} {R : EStateM.Result Unit Sp.Wk α} {m : Sp.M α} (h : PdK B n r u v R m) (g : CG n' r' v w) (hn : ∀ k, n k = false → n' k = false) (hr : ∀ k, r k = false → r' k = false) (h29 : w.1 29 = v.1 29) (h30 : w.1 30 = v.1 30) (h31 : w.1 31 = v.1 31) (h32 : w.1 32 = v.1 32) : PdK B n r u w R m := by
  refine ⟨h.1.tr (g.mono hn hr), ?_⟩
  rcases h.2 with ⟨s, hl, e⟩ | ⟨s, hl, e⟩
  · exact Or.inl ⟨s, ⟨by rw [h32]; exact hl.1, by unfold StS StC; rw [h30, h31]; exact hl.2.1, by rw [h29]; exact hl.2.2⟩, e⟩
  · exact Or.inr ⟨s, ⟨by rw [h32]; exact hl.1, by unfold StS StC; rw [h30, h31]; exact hl.2⟩, e⟩
theorem PdK.room [DecidableEq Ob] {α : Type} {B : Int} {n r : Nat → Bool} {u v : iST} {R : EStateM.Result Unit Sp.Wk α} {o : Ob} {c : Nat} {k : Ob → Sp.M α} (h : PdK B n r u v R (Sp.bd (Sp.big o c) k)) (fit : Fit B R) (hk : ∀ a, Mono (k a)) (z : v.1 32 = 0) : v.1 29 + (c : Int) ≤ 160000 := by
  obtain ⟨s, hl, e⟩ := h.live z
  rw [e] at fit
  have f2 := fit.bd hk
  unfold Fit at f2
  have : cntR (Sp.big o c s) = s.2 + c := by
    unfold Sp.big
    split <;> rfl
  rw [this] at f2
  have := hl.2.2
  omega
theorem big_ok [DecidableEq Ob] {o : Ob} {n : Nat} {s : Sp.Wk} (h : o.sz ≤ 120) : Sp.big o n s = .ok o (s.1, s.2 + n) := by
  unfold Sp.big
  rw [if_neg (by omega)]
theorem big_err [DecidableEq Ob] {o : Ob} {n : Nat} {s : Sp.Wk} (h : 120 < o.sz) : Sp.big o n s = .error () (s.1, s.2 + n) := by
  unfold Sp.big
  rw [if_pos h]
/-- an instance by what is bound -/
theorem pc_fillU [DecidableEq Ob] {α : Type} {xs : List Ob} {k B : Int} {n r : Nat → Bool} {Q : Int → iST → Prop} {u v : iST} {E : Sp.Env} {R : EStateM.Result Unit Sp.Wk α} {K : Ob → Sp.M α} {l : List (Ob × Ob)} (hP : PdK B n r u v R (Sp.bd (Sp.fillU xs (Ob.lkD l) (oc v k)) K)) (hn : ∀ k, n k = false → f8B k = false) (hr : ∀ k, r k = false → f8W k = false) (fit : Fit B R) (hK : ∀ a, Mono (K a)) (h6 : ∀ f, Sp.arOf E f ≤ 6) (hk : NdC v E k) (hB : BnOk v) (hl : bdL v = l) (hlw : ∀ x, Ob.isVar x = true → Ob.wt (Sp.arOf E) (Ob.lkD l x) ∧ (Ob.lkD l x).sz ≤ 120) (hw : Ob.wt (Sp.arOf E) (Ob.sbM (Ob.lkD l) false (oc v k))) (hxs : v.1 32 = 0 → ∀ x, x ∈ xs → ExT v x ∧ x.sz ≤ 120)
    (hq : ∀ t w, CG f8B f8W v w → (v.1 32 ≠ 0 → w.1 32 ≠ 0) → NdD w E t → PdK B n r u w R (K (oc w t)) → (t = -1 → w.1 32 ≠ 0) → Q t w) : pv_10_rebuilt k 1 Q v := by
  have hT := hP.1.1
  have hM : MuH v 1 (muF l) := by
    intro x j P gx hj hp
    obtain ⟨b1, b2⟩ := hB.mono hT gx (gx.2.2.1 39 (by decide)) (gx.2.2.2 35 (by decide)) (gx.2.2.2 36 (by decide))
    refine ⟨fun _ => pc_meaningF gx.1 b1 hj (fun r hr => hp r (by rw [b2, hl] at hr; exact hr)), fun z => by cases z⟩
  have hsz := hk.2.2
  have hdp := dp_sz false (oc v k)
  have hsz' : Ob.szM false (oc v k) ≤ 120 := hsz
  have hcs := (csM_it false (oc v k)).1
  obtain ⟨r1, r2⟩ := rbF_eq (l := l) (fun x hx => (hlw x hx).2) false (oc v k) hk.2.1
  by_cases hx : v.1 32 = 0 ∧ (Ob.sbM (Ob.lkD l) false (oc v k) = oc v k ∨ Ob.has xs (Ob.sbM (Ob.lkD l) false (oc v k)) = true)
  · have hex : ExT v (Ob.sbM (Ob.lkD l) false (oc v k)) ∧ (Ob.sbM (Ob.lkD l) false (oc v k)).sz ≤ 120 := by
      rcases hx.2 with q | q
      · rw [q]; exact ⟨⟨k, hk.1, rfl⟩, hk.2.2⟩
      · exact hxs hx.1 _ (Ob.has_iff.mp q)
    have sT : Ob.szM false (Ob.sbM (Ob.lkD l) false (oc v k)) ≤ 120 := hex.2
    have eT : rbM (muF l) false (oc v k) = some (Ob.sbM (Ob.lkD l) false (oc v k)) := by
      cases e : rbM (muF l) false (oc v k) with
      | none => have := r2 e; omega
      | some y => rw [(r1 y e).1]
    refine pc_rebuiltX hT hM hk.1 (ok6_F h6 false _ hk.2.1) (by omega) (by omega) eT hex.1 (fun t w gw wn wc vt et => ?_)
    have w32 : w.1 32 = 0 := by rw [wn]; exact hx.1
    refine hq t w gw (fun z => absurd hx.1 z) ⟨by have := vt.1; omega, vt.2, fun _ => ⟨vt, by rw [et]; exact hw, by rw [et]; exact hex.2⟩⟩ ?_ (fun z => by have := vt.1; omega)
    refine PdK.step (o := oc w t) hP gw hn hr (fun z => absurd hx.1 z) (fun s hls => ⟨fun _ => ?_, fun z => absurd w32 z⟩)
    refine ⟨(s.1, s.2 + 0), by rw [et]; unfold Sp.fillU; rw [if_pos hx.2]; exact big_ok hex.2, rfl, ?_⟩
    have := hls.2.2
    show w.1 29 ≤ B + ((s.2 + 0 : Nat) : Int)
    rw [wn]
    omega
  have hnx : v.1 32 = 0 → (if Ob.sbM (Ob.lkD l) false (oc v k) = oc v k ∨ Ob.has xs (Ob.sbM (Ob.lkD l) false (oc v k)) = true then 0 else (Ob.csM false (oc v k)).toNat) = (Ob.csM false (oc v k)).toNat := fun z => if_neg (fun q => hx ⟨z, q⟩)
  have hroom : v.1 32 = 0 → v.1 29 + Ob.csM false (oc v k) ≤ 160000 := fun z => by
    have := PdK.room hP fit hK z
    rw [hnx z] at this
    omega
  refine pc_rebuiltG hT hM (fun _ o => by unfold muF; split; (intro z; cases z); split <;> (intro z; cases z)) hk.1 (ok6_F h6 false _ hk.2.1) (by omega) (by omega) hroom (fun t w gw w29 wd hor => ?_)
  have hle := gw.le
  rcases hor with ⟨ht, hn1, hw1, _⟩ | ⟨ht, hs⟩
  · have w32 := hw1 (by decide)
    refine hq t w gw wd ⟨by omega, by have := hT.1.1.1; omega, fun z => absurd z w32⟩ ?_ (fun _ => w32)
    refine PdK.step (o := oc w t) hP gw hn hr wd (fun s hls => ⟨fun z => absurd z w32, fun _ => ⟨_, big_err (r2 (hn1 hls.1)), rfl⟩⟩)
  · have ex : v.1 32 = 0 → w.1 32 = 0 ∧ oc w t = Ob.sbM (Ob.lkD l) false (oc v k) ∧ (Ob.sbM (Ob.lkD l) false (oc v k)).sz ≤ 120 := fun z => by
      obtain ⟨a1, a2⟩ := hs z
      obtain ⟨b1, b2⟩ := r1 _ a2
      exact ⟨a1, b1, by rw [← b1]; exact b2 rfl⟩
    have hl0 : w.1 32 = 0 → v.1 32 = 0 := fun z => by
      by_cases q : v.1 32 = 0
      · exact q
      · exact absurd z (wd q)
    refine hq t w gw wd ⟨by have := ht.1; omega, ht.2, fun z => ?_⟩ ?_ (fun z => by have := ht.1; omega)
    · obtain ⟨_, b, c⟩ := ex (hl0 z)
      exact ⟨ht, by rw [b]; exact hw, by rw [b]; exact c⟩
    · refine PdK.step (o := oc w t) hP gw hn hr wd (fun s hls => ⟨fun z => ?_, fun z => absurd (ex hls.1).1 z⟩)
      obtain ⟨_, b, c⟩ := ex hls.1
      refine ⟨(s.1, s.2 + (Ob.csM false (oc v k)).toNat), by rw [b]; unfold Sp.fillU; rw [hnx hls.1]; exact big_ok c, rfl, ?_⟩
      have := hls.2.2
      show w.1 29 ≤ B + ((s.2 + (Ob.csM false (oc v k)).toNat : Nat) : Int)
      omega
theorem pc_fill [DecidableEq Ob] {α : Type} {k B : Int} {n r : Nat → Bool} {Q : Int → iST → Prop} {u v : iST} {E : Sp.Env} {R : EStateM.Result Unit Sp.Wk α} {K : Ob → Sp.M α} {l : List (Ob × Ob)} (hP : PdK B n r u v R (Sp.bd (Sp.fill (Ob.lkD l) (oc v k)) K)) (hn : ∀ k, n k = false → f8B k = false) (hr : ∀ k, r k = false → f8W k = false) (fit : Fit B R) (hK : ∀ a, Mono (K a)) (h6 : ∀ f, Sp.arOf E f ≤ 6) (hk : NdC v E k) (hB : BnOk v) (hl : bdL v = l) (hlw : ∀ x, Ob.isVar x = true → Ob.wt (Sp.arOf E) (Ob.lkD l x) ∧ (Ob.lkD l x).sz ≤ 120) (hw : Ob.wt (Sp.arOf E) (Ob.sbM (Ob.lkD l) false (oc v k)))
    (hq : ∀ t w, CG f8B f8W v w → (v.1 32 ≠ 0 → w.1 32 ≠ 0) → NdD w E t → PdK B n r u w R (K (oc w t)) → (t = -1 → w.1 32 ≠ 0) → Q t w) : pv_10_rebuilt k 1 Q v := pc_fillU (xs := []) hP hn hr fit hK h6 hk hB hl hlw hw (fun _ x hx => by cases hx) hq
