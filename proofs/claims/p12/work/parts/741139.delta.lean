-- deps: 741
/-! the class: where the work has failed, how far the room is filled -/
def Dd_d [DecidableEq Ob] (B : Int) (δ : Nat) (u : iST) (s : Sp.Wk) : Prop := u.1 32 ≠ 0 ∧ StS u s ∧ u.1 29 ≤ B + (s.2 : Int) + (δ : Int)
theorem Dd_d.up [DecidableEq Ob] {B : Int} {δ δ' : Nat} {u : iST} {s : Sp.Wk} (h : Dd_d B δ u s) (hδ : δ ≤ δ' := by omega) : Dd_d B δ' u s := ⟨h.1, h.2.1, by have := h.2.2; omega⟩
def PdK_d [DecidableEq Ob] {α : Type} (B : Int) (δ : Nat) (n r : Nat → Bool) (u v : iST) (R : EStateM.Result Unit Sp.Wk α) (m : Sp.M α) : Prop := CG n r u v ∧ ((∃ s, Lv B v s ∧ R = m s) ∨ ∃ s, Dd_d B δ v s ∧ R = .error () s)
theorem PdK_d.live [DecidableEq Ob] {α : Type} {B : Int} {δ : Nat} {n r : Nat → Bool} {u v : iST} {R : EStateM.Result Unit Sp.Wk α} {m : Sp.M α} (h : PdK_d B δ n r u v R m) (z : v.1 32 = 0) : ∃ s, Lv B v s ∧ R = m s := by
  rcases h.2 with q | ⟨s, q, _⟩
  · exact q
  · exact absurd z q.1
theorem PdK_d.dead [DecidableEq Ob] {α : Type} {B : Int} {δ δ' : Nat} {n r : Nat → Bool} {u v : iST} {R : EStateM.Result Unit Sp.Wk α} {m : Sp.M α} (h : PdK_d B δ n r u v R m) (z : v.1 32 ≠ 0) (hδ : δ ≤ δ' := by omega) : ∃ s, Dd_d B δ' v s ∧ R = .error () s := by
  rcases h.2 with ⟨s, q, _⟩ | ⟨s, q, e⟩
  · exact absurd q.1 z
  · exact ⟨s, q.up hδ, e⟩
/-- work that goes on owes nothing -/
theorem PdK_d.zero [DecidableEq Ob] {α : Type} {B : Int} {δ δ' : Nat} {n r : Nat → Bool} {u v : iST} {R : EStateM.Result Unit Sp.Wk α} {m : Sp.M α} (h : PdK_d B δ n r u v R m) (z : v.1 32 = 0) : PdK_d B δ' n r u v R m := ⟨h.1, Or.inl (h.live z)⟩
theorem PdK_d.w [DecidableEq Ob] {α : Type} {B : Int} {δ δ' : Nat} {n r : Nat → Bool} {u v : iST} {R : EStateM.Result Unit Sp.Wk α} {m : Sp.M α} (h : PdK_d B δ n r u v R m) (hδ : δ ≤ δ' := by omega) : PdK_d B δ' n r u v R m := by
  refine ⟨h.1, ?_⟩
  rcases h.2 with q | ⟨s, q, e⟩
  · exact Or.inl q
  · exact Or.inr ⟨s, q.up hδ, e⟩
theorem csM_sz_d [DecidableEq Ob] : ∀ (m : Bool) (o : Ob), Ob.csM m o + (if m = true then 0 else 1) ≤ 2 * Ob.szM m o
  | true, .op a b => by
    have h1 : Ob.csM false a + 1 ≤ 2 * Ob.szM false a := csM_sz_d false a
    have h2 : Ob.csM true b + 0 ≤ 2 * Ob.szM true b := csM_sz_d true b
    show 1 + Ob.csM false a + Ob.csM true b + 0 ≤ 2 * (Ob.szM false a + Ob.szM true b)
    omega
  | true, .var x => by show (0 : Int) + 0 ≤ 2 * 0; decide
  | false, .op a b => by
    have h2 : Ob.csM true b + 0 ≤ 2 * Ob.szM true b := csM_sz_d true b
    show (if a = Ob.quote then 0 else 1 + Ob.csM true b) + 1 ≤ 2 * (if a = Ob.quote then 1 else 1 + Ob.szM true b)
    by_cases c : a = Ob.quote
    · rw [if_pos c, if_pos c]; decide
    · rw [if_neg c, if_neg c]; omega
  | false, .var x => by show (0 : Int) + 1 ≤ 2 * 1; decide
theorem csM_le_d [DecidableEq Ob] (o : Ob) : Ob.csM false o + 1 ≤ 2 * o.sz := csM_sz_d false o
/-- one thing is made: it is there, or the work has failed -/
theorem PdK_d.stepc [DecidableEq Ob] {α : Type} {B : Int} {δ : Nat} (c : Nat) {n r : Nat → Bool} {u v w : iST} {R : EStateM.Result Unit Sp.Wk α} {m : Sp.M Ob} {k : Ob → Sp.M α} {o : Ob} (h : PdK_d B δ n r u v R (Sp.bd m k)) (g : CG f8B f8W v w) (hn : ∀ k, n k = false → f8B k = false) (hr : ∀ k, r k = false → f8W k = false) (hd : v.1 32 ≠ 0 → w.1 32 ≠ 0) (h29 : w.1 29 ≤ v.1 29 + (c : Int))
    (hs : ∀ s, Lv B v s → (w.1 32 = 0 → ∃ s', m s = .ok o s' ∧ s'.1 = s.1 ∧ w.1 29 ≤ B + (s'.2 : Int)) ∧ (w.1 32 ≠ 0 → ∃ s', m s = .error () s' ∧ s'.1 = s.1 ∧ s.2 ≤ s'.2)) : PdK_d B (δ + c) n r u w R (k o) := by
  refine ⟨h.1.tr (g.mono hn hr), ?_⟩
  rcases h.2 with ⟨s, hl, e⟩ | ⟨s, hl, e⟩
  · obtain ⟨a, b⟩ := hs s hl
    by_cases z : w.1 32 = 0
    · obtain ⟨s', e1, e2, e3⟩ := a z
      exact Or.inl ⟨s', ⟨z, hl.2.1.cg g (by decide) (by decide) e2, e3⟩, by rw [e]; exact bind_ok e1⟩
    · obtain ⟨s', e1, e2, e3⟩ := b z
      exact Or.inr ⟨s', ⟨z, hl.2.1.cg g (by decide) (by decide) e2, by have := hl.2.2; omega⟩, by rw [e]; exact bind_err e1⟩
  · exact Or.inr ⟨s, ⟨hd hl.1, hl.2.1.cg g (by decide) (by decide) rfl, by have := hl.2.2; omega⟩, e⟩
theorem PdK_d.step [DecidableEq Ob] {α : Type} {B : Int} {δ : Nat} {n r : Nat → Bool} {u v w : iST} {R : EStateM.Result Unit Sp.Wk α} {m : Sp.M Ob} {k : Ob → Sp.M α} {o : Ob} (h : PdK_d B δ n r u v R (Sp.bd m k)) (g : CG f8B f8W v w) (hn : ∀ k, n k = false → f8B k = false) (hr : ∀ k, r k = false → f8W k = false) (hd : v.1 32 ≠ 0 → w.1 32 ≠ 0) (h29 : w.1 29 ≤ v.1 29 + 300)
    (hs : ∀ s, Lv B v s → (w.1 32 = 0 → ∃ s', m s = .ok o s' ∧ s'.1 = s.1 ∧ w.1 29 ≤ B + (s'.2 : Int)) ∧ (w.1 32 ≠ 0 → ∃ s', m s = .error () s' ∧ s'.1 = s.1 ∧ s.2 ≤ s'.2)) : PdK_d B (δ + 300) n r u w R (k o) := PdK_d.stepc 300 h g hn hr hd h29 hs
theorem PdK_d.on [DecidableEq Ob] {α : Type} {δ : Nat} {B : Int} {n r n' r' : Nat → Bool} {u v w : iST} {R : EStateM.Result Unit Sp.Wk α} {m : Sp.M α} (h : PdK_d B δ n r u v R m) (g : CG n' r' v w) (hn : ∀ k, n k = false → n' k = false) (hr : ∀ k, r k = false → r' k = false) (h29 : w.1 29 = v.1 29) (h30 : w.1 30 = v.1 30) (h31 : w.1 31 = v.1 31) (h32 : w.1 32 = v.1 32) : PdK_d B δ n r u w R m := by
  refine ⟨h.1.tr (g.mono hn hr), ?_⟩
  rcases h.2 with ⟨s, hl, e⟩ | ⟨s, hl, e⟩
  · exact Or.inl ⟨s, ⟨by rw [h32]; exact hl.1, by unfold StS StC; rw [h30, h31]; exact hl.2.1, by rw [h29]; exact hl.2.2⟩, e⟩
  · exact Or.inr ⟨s, ⟨by rw [h32]; exact hl.1, by unfold StS StC; rw [h30, h31]; exact hl.2.1, by rw [h29]; exact hl.2.2⟩, e⟩
theorem PdK_d.room [DecidableEq Ob] {α : Type} {δ : Nat} {B : Int} {n r : Nat → Bool} {u v : iST} {R : EStateM.Result Unit Sp.Wk α} {o : Ob} {c : Nat} {k : Ob → Sp.M α} (h : PdK_d B δ n r u v R (Sp.bd (Sp.big o c) k)) (fit : Fit B R) (hk : ∀ a, Mono (k a)) (z : v.1 32 = 0) : v.1 29 + (c : Int) ≤ 160000 := by
  obtain ⟨s, hl, e⟩ := h.live z
  rw [e] at fit
  have f2 := fit.bd hk
  unfold Fit at f2
  have : cntR (Sp.big o c s) = s.2 + c := by
    unfold Sp.big
    split <;> rfl
  rw [this] at f2
  have := hl.2.2
  omega
theorem pc_fillU_e [DecidableEq Ob] {α : Type} {δ : Nat} {xs : List Ob} {k B : Int} {n r : Nat → Bool} {Q : Int → iST → Prop} {u v : iST} {E : Sp.Env} {R : EStateM.Result Unit Sp.Wk α} {K : Ob → Sp.M α} {l : List (Ob × Ob)} (hP : PdK_d B δ n r u v R (Sp.bd (Sp.fillU xs (Ob.lkD l) (oc v k)) K)) (hn : ∀ k, n k = false → f8B k = false) (hr : ∀ k, r k = false → f8W k = false) (fit : Fit B R) (hK : ∀ a, Mono (K a)) (h6 : ∀ f, Sp.arOf E f ≤ 6) (hk : NdC v E k) (hB : BnOk v) (hl : bdL v = l) (hlw : ∀ x, Ob.isVar x = true → Ob.wt (Sp.arOf E) (Ob.lkD l x) ∧ (Ob.lkD l x).sz ≤ 120) (hw : Ob.wt (Sp.arOf E) (Ob.sbM (Ob.lkD l) false (oc v k))) (hxs : v.1 32 = 0 → ∀ x, x ∈ xs → ExT v x ∧ x.sz ≤ 120)
    (hq : ∀ t w, CG f8B f8W v w → (v.1 32 ≠ 0 → w.1 32 ≠ 0) → NdD w E t → PdK_d B (δ + (Ob.csM false (oc v k)).toNat) n r u w R (K (oc w t)) → (t = -1 → w.1 32 ≠ 0) → Q t w) : pv_10_rebuilt k 1 Q v := by
  have hT := hP.1.1
  have hM : MuH v 1 (muF l) := by
    intro x j P gx hj hp
    obtain ⟨b1, b2⟩ := hB.mono hT gx (gx.2.2.1 39 (by decide)) (gx.2.2.2 35 (by decide)) (gx.2.2.2 36 (by decide))
    refine ⟨fun _ => pc_meaningF gx.1 b1 hj (fun r hr => hp r (by rw [b2, hl] at hr; exact hr)), fun z => by cases z⟩
  have hsz := hk.2.2
  have hdp := dp_sz false (oc v k)
  have hsz' : Ob.szM false (oc v k) ≤ 120 := hsz
  have hcs := (csM_it false (oc v k)).1
  have hcs2 := csM_le_d (oc v k)
  obtain ⟨r1, r2⟩ := rbF_eq (l := l) (fun x hx => (hlw x hx).2) false (oc v k) hk.2.1
  by_cases hx : v.1 32 = 0 ∧ (Ob.sbM (Ob.lkD l) false (oc v k) = oc v k ∨ Ob.has xs (Ob.sbM (Ob.lkD l) false (oc v k)) = true)
  · have hex : ExT v (Ob.sbM (Ob.lkD l) false (oc v k)) ∧ (Ob.sbM (Ob.lkD l) false (oc v k)).sz ≤ 120 := by
      rcases hx.2 with q | q
      · rw [q]; exact ⟨⟨k, hk.1, rfl⟩, hk.2.2⟩
      · exact hxs hx.1 _ (Ob.has_iff.mp q)
    have sT : Ob.szM false (Ob.sbM (Ob.lkD l) false (oc v k)) ≤ 120 := hex.2
    have eT : rbM (muF l) false (oc v k) = some (Ob.sbM (Ob.lkD l) false (oc v k)) := by
      cases e : rbM (muF l) false (oc v k) with
      | none => have := r2 e; omega
      | some y => rw [(r1 y e).1]
    refine pc_rebuiltX hT hM hk.1 (ok6_F h6 false _ hk.2.1) (by omega) (by omega) eT hex.1 (fun t w gw wn wc vt et => ?_)
    have w32 : w.1 32 = 0 := by rw [wn]; exact hx.1
    refine hq t w gw (fun z => absurd hx.1 z) ⟨by have := vt.1; omega, vt.2, fun _ => ⟨vt, by rw [et]; exact hw, by rw [et]; exact hex.2⟩⟩ ?_ (fun z => by have := vt.1; omega)
    refine PdK_d.stepc (Ob.csM false (oc v k)).toNat (o := oc w t) hP gw hn hr (fun z => absurd hx.1 z) (by rw [wn]; omega) (fun s hls => ⟨fun _ => ?_, fun z => absurd w32 z⟩)
    refine ⟨(s.1, s.2 + 0), by rw [et]; unfold Sp.fillU; rw [if_pos hx.2]; exact big_ok hex.2, rfl, ?_⟩
    have := hls.2.2
    show w.1 29 ≤ B + ((s.2 + 0 : Nat) : Int)
    rw [wn]
    omega
  have hnx : v.1 32 = 0 → (if Ob.sbM (Ob.lkD l) false (oc v k) = oc v k ∨ Ob.has xs (Ob.sbM (Ob.lkD l) false (oc v k)) = true then 0 else (Ob.csM false (oc v k)).toNat) = (Ob.csM false (oc v k)).toNat := fun z => if_neg (fun q => hx ⟨z, q⟩)
  have hroom : v.1 32 = 0 → v.1 29 + Ob.csM false (oc v k) ≤ 160000 := fun z => by
    have := PdK_d.room hP fit hK z
    rw [hnx z] at this
    omega
  refine pc_rebuiltG hT hM (fun _ o => by unfold muF; split; (intro z; cases z); split <;> (intro z; cases z)) hk.1 (ok6_F h6 false _ hk.2.1) (by omega) (by omega) hroom (fun t w gw w29 wd hor => ?_)
  have hle := gw.le
  rcases hor with ⟨ht, hn1, hw1, _⟩ | ⟨ht, hs⟩
  · have w32 := hw1 (by decide)
    refine hq t w gw wd ⟨by omega, by have := hT.1.1.1; omega, fun z => absurd z w32⟩ ?_ (fun _ => w32)
    refine PdK_d.stepc (Ob.csM false (oc v k)).toNat (o := oc w t) hP gw hn hr wd (by omega) (fun s hls => ⟨fun z => absurd z w32, fun _ => ⟨_, big_err (r2 (hn1 hls.1)), rfl, Nat.le_add_right _ _⟩⟩)
  · have ex : v.1 32 = 0 → w.1 32 = 0 ∧ oc w t = Ob.sbM (Ob.lkD l) false (oc v k) ∧ (Ob.sbM (Ob.lkD l) false (oc v k)).sz ≤ 120 := fun z => by
      obtain ⟨a1, a2⟩ := hs z
      obtain ⟨b1, b2⟩ := r1 _ a2
      exact ⟨a1, b1, by rw [← b1]; exact b2 rfl⟩
    have hl0 : w.1 32 = 0 → v.1 32 = 0 := fun z => by
      by_cases q : v.1 32 = 0
      · exact q
      · exact absurd z (wd q)
    refine hq t w gw wd ⟨by have := ht.1; omega, ht.2, fun z => ?_⟩ ?_ (fun z => by have := ht.1; omega)
    · obtain ⟨_, b, c⟩ := ex (hl0 z)
      exact ⟨ht, by rw [b]; exact hw, by rw [b]; exact c⟩
    · refine PdK_d.stepc (Ob.csM false (oc v k)).toNat (o := oc w t) hP gw hn hr wd (by omega) (fun s hls => ⟨fun z => ?_, fun z => absurd (ex hls.1).1 z⟩)
      obtain ⟨_, b, c⟩ := ex hls.1
      refine ⟨(s.1, s.2 + (Ob.csM false (oc v k)).toNat), by rw [b]; unfold Sp.fillU; rw [hnx hls.1]; exact big_ok c, rfl, ?_⟩
      have := hls.2.2
      show w.1 29 ≤ B + ((s.2 + (Ob.csM false (oc v k)).toNat : Nat) : Int)
      omega
theorem pc_fillU_d [DecidableEq Ob] {α : Type} {δ : Nat} {xs : List Ob} {k B : Int} {n r : Nat → Bool} {Q : Int → iST → Prop} {u v : iST} {E : Sp.Env} {R : EStateM.Result Unit Sp.Wk α} {K : Ob → Sp.M α} {l : List (Ob × Ob)} (hP : PdK_d B δ n r u v R (Sp.bd (Sp.fillU xs (Ob.lkD l) (oc v k)) K)) (hn : ∀ k, n k = false → f8B k = false) (hr : ∀ k, r k = false → f8W k = false) (fit : Fit B R) (hK : ∀ a, Mono (K a)) (h6 : ∀ f, Sp.arOf E f ≤ 6) (hk : NdC v E k) (hB : BnOk v) (hl : bdL v = l) (hlw : ∀ x, Ob.isVar x = true → Ob.wt (Sp.arOf E) (Ob.lkD l x) ∧ (Ob.lkD l x).sz ≤ 120) (hw : Ob.wt (Sp.arOf E) (Ob.sbM (Ob.lkD l) false (oc v k))) (hxs : v.1 32 = 0 → ∀ x, x ∈ xs → ExT v x ∧ x.sz ≤ 120)
    (hq : ∀ t w, CG f8B f8W v w → (v.1 32 ≠ 0 → w.1 32 ≠ 0) → NdD w E t → PdK_d B (δ + 300) n r u w R (K (oc w t)) → (t = -1 → w.1 32 ≠ 0) → Q t w) : pv_10_rebuilt k 1 Q v := pc_fillU_e hP hn hr fit hK h6 hk hB hl hlw hw hxs (fun t w g d nt P m => hq t w g d nt (P.w (by have h1 := csM_le_d (oc v k); have h2 := hk.2.2; omega)) m)
theorem pc_fill_d [DecidableEq Ob] {α : Type} {δ : Nat} {k B : Int} {n r : Nat → Bool} {Q : Int → iST → Prop} {u v : iST} {E : Sp.Env} {R : EStateM.Result Unit Sp.Wk α} {K : Ob → Sp.M α} {l : List (Ob × Ob)} (hP : PdK_d B δ n r u v R (Sp.bd (Sp.fill (Ob.lkD l) (oc v k)) K)) (hn : ∀ k, n k = false → f8B k = false) (hr : ∀ k, r k = false → f8W k = false) (fit : Fit B R) (hK : ∀ a, Mono (K a)) (h6 : ∀ f, Sp.arOf E f ≤ 6) (hk : NdC v E k) (hB : BnOk v) (hl : bdL v = l) (hlw : ∀ x, Ob.isVar x = true → Ob.wt (Sp.arOf E) (Ob.lkD l x) ∧ (Ob.lkD l x).sz ≤ 120) (hw : Ob.wt (Sp.arOf E) (Ob.sbM (Ob.lkD l) false (oc v k)))
    (hq : ∀ t w, CG f8B f8W v w → (v.1 32 ≠ 0 → w.1 32 ≠ 0) → NdD w E t → PdK_d B (δ + 300) n r u w R (K (oc w t)) → (t = -1 → w.1 32 ≠ 0) → Q t w) : pv_10_rebuilt k 1 Q v := pc_fillU_d (xs := []) hP hn hr fit hK h6 hk hB hl hlw hw (fun _ x hx => by cases hx) hq

theorem pc_replace_e [DecidableEq Ob] {α : Type} {δ : Nat} {k B : Int} {n r : Nat → Bool} {Q : Int → iST → Prop} {u v : iST} {E : Sp.Env} {R : EStateM.Result Unit Sp.Wk α} {K : Ob → Sp.M α} (hP : PdK_d B δ n r u v R (Sp.bd (Sp.big (Ob.rpM (oc v (v.1 40)) (oc v (v.1 41)) false (oc v k)) (Ob.csM false (oc v k)).toNat) K)) (hn : ∀ k, n k = false → f8B k = false) (hr : ∀ k, r k = false → f8W k = false) (fit : Fit B R) (hK : ∀ a, Mono (K a)) (h6 : ∀ f, Sp.arOf E f ≤ 6) (hk : NdC v E k) (h40 : VN v (v.1 40)) (h41 : NdC v E (v.1 41)) (hw : Ob.wt (Sp.arOf E) (Ob.rpM (oc v (v.1 40)) (oc v (v.1 41)) false (oc v k)))
    (hq : ∀ t w, CG f8B f8W v w → (v.1 32 ≠ 0 → w.1 32 ≠ 0) → NdD w E t → PdK_d B (δ + (Ob.csM false (oc v k)).toNat) n r u w R (K (oc w t)) → (t = -1 → w.1 32 ≠ 0) → Q t w) : pv_10_rebuilt k 2 Q v := by
  have hT := hP.1.1
  have hM : MuH v 2 (muP (oc v (v.1 40)) (oc v (v.1 41))) := by
    intro x j P gx hj hp
    have e40 := gx.2.2.1 40 (by decide)
    have e41 := gx.2.2.1 41 (by decide)
    refine ⟨fun _ => pc_meaningP gx.1 hj (by rw [e40]; exact h40.up gx) (by rw [e41]; exact h41.1.up gx) (fun r hr => hp r ?_), fun z => by cases z⟩
    rw [e40, e41, gx.oc hT h40.1 h40.2, gx.oc hT h41.1.1 h41.1.2] at hr
    exact hr
  have hsz := hk.2.2
  have hdp := dp_sz false (oc v k)
  have hsz' : Ob.szM false (oc v k) ≤ 120 := hsz
  have hcs := (csM_it false (oc v k)).1
  have hcs2 := csM_le_d (oc v k)
  have hroom : v.1 32 = 0 → v.1 29 + Ob.csM false (oc v k) ≤ 160000 := fun z => by
    have := PdK_d.room hP fit hK z
    omega
  refine pc_rebuiltG hT hM (fun _ o => by unfold muP; split; (intro z; cases z); split <;> (intro z; cases z)) hk.1 (ok6_P h6 false _ hk.2.1) (by omega) (by omega) hroom (fun t w gw w29 wd hor => ?_)
  obtain ⟨r1, r2⟩ := rbP_eq (x0 := oc v (v.1 40)) (y0 := oc v (v.1 41)) h41.2.2 false (oc v k) hk.2.1
  have hle := gw.le
  rcases hor with ⟨ht, hn1, hw1, _⟩ | ⟨ht, hs⟩
  · have w32 := hw1 (by decide)
    refine hq t w gw wd ⟨by omega, by have := hT.1.1.1; omega, fun z => absurd z w32⟩ ?_ (fun _ => w32)
    refine PdK_d.stepc (Ob.csM false (oc v k)).toNat (o := oc w t) hP gw hn hr wd (by omega) (fun s hls => ⟨fun z => absurd z w32, fun _ => ⟨_, big_err (r2 (hn1 hls.1)), rfl, Nat.le_add_right _ _⟩⟩)
  · have ex : v.1 32 = 0 → w.1 32 = 0 ∧ oc w t = Ob.rpM (oc v (v.1 40)) (oc v (v.1 41)) false (oc v k) ∧ (Ob.rpM (oc v (v.1 40)) (oc v (v.1 41)) false (oc v k)).sz ≤ 120 := fun z => by
      obtain ⟨a1, a2⟩ := hs z
      obtain ⟨b1, b2⟩ := r1 _ a2
      exact ⟨a1, b1, by rw [← b1]; exact b2 rfl⟩
    have hl0 : w.1 32 = 0 → v.1 32 = 0 := fun z => by
      by_cases q : v.1 32 = 0
      · exact q
      · exact absurd z (wd q)
    refine hq t w gw wd ⟨by have := ht.1; omega, ht.2, fun z => ?_⟩ ?_ (fun z => by have := ht.1; omega)
    · obtain ⟨_, b, c⟩ := ex (hl0 z)
      exact ⟨ht, by rw [b]; exact hw, by rw [b]; exact c⟩
    · refine PdK_d.stepc (Ob.csM false (oc v k)).toNat (o := oc w t) hP gw hn hr wd (by omega) (fun s hls => ⟨fun z => ?_, fun z => absurd (ex hls.1).1 z⟩)
      obtain ⟨_, b, c⟩ := ex hls.1
      refine ⟨(s.1, s.2 + (Ob.csM false (oc v k)).toNat), by rw [b]; exact big_ok c, rfl, ?_⟩
      have := hls.2.2
      show w.1 29 ≤ B + ((s.2 + (Ob.csM false (oc v k)).toNat : Nat) : Int)
      omega
theorem pc_replace_d [DecidableEq Ob] {α : Type} {δ : Nat} {k B : Int} {n r : Nat → Bool} {Q : Int → iST → Prop} {u v : iST} {E : Sp.Env} {R : EStateM.Result Unit Sp.Wk α} {K : Ob → Sp.M α} (hP : PdK_d B δ n r u v R (Sp.bd (Sp.big (Ob.rpM (oc v (v.1 40)) (oc v (v.1 41)) false (oc v k)) (Ob.csM false (oc v k)).toNat) K)) (hn : ∀ k, n k = false → f8B k = false) (hr : ∀ k, r k = false → f8W k = false) (fit : Fit B R) (hK : ∀ a, Mono (K a)) (h6 : ∀ f, Sp.arOf E f ≤ 6) (hk : NdC v E k) (h40 : VN v (v.1 40)) (h41 : NdC v E (v.1 41)) (hw : Ob.wt (Sp.arOf E) (Ob.rpM (oc v (v.1 40)) (oc v (v.1 41)) false (oc v k)))
    (hq : ∀ t w, CG f8B f8W v w → (v.1 32 ≠ 0 → w.1 32 ≠ 0) → NdD w E t → PdK_d B (δ + 300) n r u w R (K (oc w t)) → (t = -1 → w.1 32 ≠ 0) → Q t w) : pv_10_rebuilt k 2 Q v := pc_replace_e hP hn hr fit hK h6 hk h40 h41 hw (fun t w g d nt P m => hq t w g d nt (P.w (by have h1 := csM_le_d (oc v k); have h2 := hk.2.2; omega)) m)
theorem pc_call48_d [DecidableEq Ob] {α : Type} {δ : Nat} {f a y B : Int} {F A Y : Ob} {c : Nat} {n r : Nat → Bool} {Q : Int → iST → Prop} {u v : iST} {E : Sp.Env} {R : EStateM.Result Unit Sp.Wk α} {K : Ob → Sp.M α} {u1 : iST} (hP : PdK_d B δ n r u v R (Sp.bd (Sp.big (.pr F (.pr A Y)) c) K)) (hn : ∀ k, n k = false → f8B k = false) (hr : ∀ k, r k = false → f8W k = false) (fit : Fit B R) (hK : ∀ a, Mono (K a))
    (g1 : CG f8M f8R v u1) (hc : u1.1 29 + 2 ≤ v.1 29 + (c : Int)) (c9 : c ≤ 9) (hf : VN v f ∧ oc v f = F) (ha : a < u1.1 29 ∧ (v.1 32 = 0 → 0 ≤ a ∧ oc u1 a = A)) (hy : VN u1 y ∧ (v.1 32 = 0 → oc u1 y = Y)) (hw : v.1 32 = 0 → Ob.wt (Sp.arOf E) (.pr F (.pr A Y)))
    (hq : ∀ t w, CG f8B f8W v w → (v.1 32 ≠ 0 → w.1 32 ≠ 0) → NdD w E t → PdK_d B (δ + 300) n r u w R (K (oc w t)) → (t = -1 → w.1 32 ≠ 0) → Q t w) : pv_10_call_48 Q f a y u1 := by
  have hT := hP.1.1
  have e32 : u1.1 32 = v.1 32 := g1.2.2.1 32 (by decide)
  have hroom : v.1 32 = 0 → v.1 29 + (c : Int) ≤ 160000 := fun z => PdK_d.room hP fit hK z
  have hd : ∀ x : Int, x + 1 ≤ v.1 29 + (c : Int) → x < 160000 ∨ v.1 32 ≠ 0 := fun x hx => by
    by_cases q : v.1 32 = 0
    · have := hroom q; exact Or.inl (by omega)
    · exact Or.inr q
  unfold pv_10_call_48
  refine pc_pairG g1.1 ha.1 hy.1.2 (by rw [e32]; exact hd _ (by omega)) (fun k1 v1 gv1 vk1 ek1 h1 => ?_)
  have e32' : v1.1 32 = v.1 32 := by rw [gv1.2.2.1 32 (by decide), e32]
  have g2 := g1.tr gv1
  have hf2 := hf.1.up g2
  refine pc_pairG gv1.1 hf2.2 vk1.2 (by rw [e32']; exact hd _ (by omega)) (fun k2 v2 gv2 vk2 ek2 h2 => ?_)
  have e32'' : v2.1 32 = v.1 32 := by rw [gv2.2.2.1 32 (by decide), e32']
  have g3 := g2.tr gv2
  have ex : v.1 32 = 0 → oc v2 k2 = .pr F (.pr A Y) := fun z => by
    have hr := hroom z
    rw [ek2 (by omega) hf2.1 vk1.1, ek1 (by omega) (ha.2 z).1 hy.1.1, g2.oc hT hf.1.1 hf.1.2, hf.2, (ha.2 z).2, hy.2 z]
  refine pc_sizeOf gv2.1 vk2 ?_
  have hs : szC (oc v2 k2) ≤ 120 ↔ (oc v2 k2).sz ≤ 120 := by
    unfold szC
    split <;> omega
  have gB : CG f8B f8W v v2 := g3.mono f8M_B f8R_W
  refine ⟨fun h => ?_, fun h => ?_⟩
  · have hsz := hs.mp h
    refine hq k2 v2 gB (fun z => by rw [e32'']; exact z) ⟨by have := vk2.1; omega, vk2.2, fun z => ?_⟩ ?_ (fun z => by have := vk2.1; omega)
    · rw [e32''] at z
      exact ⟨vk2, by rw [ex z]; exact hw z, hsz⟩
    · refine PdK_d.step (o := oc v2 k2) hP gB hn hr (fun z => by rw [e32'']; exact z) (by omega) (fun s hls => ⟨fun z => ?_, fun z => absurd (by rw [e32'']; exact hls.1) z⟩)
      have e := ex hls.1
      rw [e] at hsz
      refine ⟨(s.1, s.2 + c), by rw [e]; exact big_ok hsz, rfl, ?_⟩
      have := hls.2.2
      show v2.1 29 ≤ B + ((s.2 + c : Nat) : Int)
      omega
  · have hbig : 120 < (oc v2 k2).sz := by
      by_cases q : (oc v2 k2).sz ≤ 120
      · exact absurd (hs.mpr q) h
      · omega
    refine pc_blame gv2.1 (by decide) (fun w gw w32 => ?_)
    have gB2 : CG f8B f8W v w := gB.tr (gw.mono (fun k hk => by unfold f8B at hk; rw [Bool.or_eq_false_iff] at hk; exact hk.2) f80_any)
    have h44 := gw.1.1.1.1
    refine hq (-1) w gB2 (fun _ => w32) ⟨Int.le_refl _, by omega, fun z => absurd z w32⟩ ?_ (fun _ => w32)
    refine PdK_d.step (o := oc w (-1)) hP gB2 hn hr (fun _ => w32) (by have : w.1 29 = v2.1 29 := gw.2.2.1 29 (by decide); omega) (fun s hls => ⟨fun z => absurd z w32, fun _ => ⟨(s.1, s.2 + c), big_err (by rw [← ex hls.1]; exact hbig), rfl, Nat.le_add_right _ _⟩⟩)
theorem pc_mk1_d [DecidableEq Ob] {α : Type} {δ : Nat} {f a B : Int} {F : Ob} {n r : Nat → Bool} {Q : Int → iST → Prop} {u v : iST} {E : Sp.Env} {R : EStateM.Result Unit Sp.Wk α} {K : Ob → Sp.M α} (hP : PdK_d B δ n r u v R (Sp.bd (Sp.mk1 F (oc v a)) K)) (hn : ∀ k, n k = false → f8B k = false) (hr : ∀ k, r k = false → f8W k = false) (fit : Fit B R) (hK : ∀ a, Mono (K a)) (hf : VN v f ∧ oc v f = F) (fs : F.isSym = true) (fq : F ≠ Ob.quote) (har : Sp.arOf E F = 1) (na : NdD v E a)
    (hq : ∀ t w, CG f8B f8W v w → (v.1 32 ≠ 0 → w.1 32 ≠ 0) → NdD w E t → PdK_d B (δ + 300) n r u w R (K (oc w t)) → (t = -1 → w.1 32 ≠ 0) → Q t w) : pv_10_call f a (-1) (-1) Q v := by
  have hT := hP.1.1
  obtain ⟨z0, z1⟩ := VN.zero hT
  unfold pv_10_call
  refine ⟨fun z => absurd rfl z, fun _ => ?_⟩
  unfold pv_10_call_23
  refine ⟨fun z => absurd rfl z, fun _ => ?_⟩
  exact pc_call48_d (u1 := v) (A := oc v a) (Y := Ob.nil) (c := 2) hP hn hr fit hK (CG.rf hT) (by omega) (by decide) hf ⟨na.2.1, fun z => ⟨(na.2.2 z).1.1, rfl⟩⟩ ⟨z0, fun _ => z1⟩ (fun z => Ob.wt_mk (l := [oc v a]) fq fs har (fun x hx => by rcases List.mem_cons.mp hx with q | q; (rw [q]; exact (na.2.2 z).2.1); cases q)) hq
theorem pc_mk2_d [DecidableEq Ob] {α : Type} {δ : Nat} {f a b B : Int} {F : Ob} {n r : Nat → Bool} {Q : Int → iST → Prop} {u v : iST} {E : Sp.Env} {R : EStateM.Result Unit Sp.Wk α} {K : Ob → Sp.M α} (hP : PdK_d B δ n r u v R (Sp.bd (Sp.mk2 F (oc v a) (oc v b)) K)) (hn : ∀ k, n k = false → f8B k = false) (hr : ∀ k, r k = false → f8W k = false) (fit : Fit B R) (hK : ∀ a, Mono (K a)) (hf : VN v f ∧ oc v f = F) (fs : F.isSym = true) (fq : F ≠ Ob.quote) (har : Sp.arOf E F = 2) (na : NdD v E a) (nb : NdD v E b)
    (hq : ∀ t w, CG f8B f8W v w → (v.1 32 ≠ 0 → w.1 32 ≠ 0) → NdD w E t → PdK_d B (δ + 300) n r u w R (K (oc w t)) → (t = -1 → w.1 32 ≠ 0) → Q t w) : pv_10_call f a b (-1) Q v := by
  have hT := hP.1.1
  have hl := hT.1.1
  obtain ⟨z0, z1⟩ := VN.zero hT
  have hwt : v.1 32 = 0 → Ob.wt (Sp.arOf E) (.pr F (.pr (oc v a) (.pr (oc v b) Ob.nil))) := fun z => Ob.wt_mk (l := [oc v a, oc v b]) fq fs har (fun x hx => by
    rcases List.mem_cons.mp hx with q | q
    · rw [q]; exact (na.2.2 z).2.1
    · rcases List.mem_cons.mp q with q | q
      · rw [q]; exact (nb.2.2 z).2.1
      · cases q)
  have hd : v.1 29 < 160000 ∨ v.1 32 ≠ 0 := by
    by_cases q : v.1 32 = 0
    · have := PdK_d.room hP fit hK q; exact Or.inl (by omega)
    · exact Or.inr q
  have hroom : v.1 32 = 0 → v.1 29 < 160000 := fun q => by have := PdK_d.room hP fit hK q; omega
  unfold pv_10_call
  refine ⟨fun z => absurd rfl z, fun _ => ?_⟩
  unfold pv_10_call_23
  refine ⟨fun hb => ?_, fun hb => ?_⟩
  · refine pc_pairG hT nb.2.1 z0.2 hd (fun k v1 g1 vk ek h1 => ?_)
    exact pc_call48_d (u1 := v1) (A := oc v a) (Y := .pr (oc v b) Ob.nil) (c := 3) hP hn hr fit hK g1 (by omega) (by decide) hf ⟨by have := g1.le; have := na.2.1; omega, fun z => ⟨(na.2.2 z).1.1, g1.oc hT (na.2.2 z).1.1 (na.2.2 z).1.2⟩⟩ ⟨vk, fun z => by rw [ek (hroom z) (nb.2.2 z).1.1 z0.1, z1]⟩ hwt hq
  · have hb := Decidable.not_not.mp hb
    have dead : v.1 32 ≠ 0 := fun z => by have := (nb.2.2 z).1.1; omega
    exact pc_call48_d (u1 := v) (A := oc v a) (Y := .pr (oc v b) Ob.nil) (c := 3) hP hn hr fit hK (CG.rf hT) (by omega) (by decide) hf ⟨na.2.1, fun z => absurd z dead⟩ ⟨z0, fun z => absurd z dead⟩ hwt hq
theorem pc_mk3_d [DecidableEq Ob] {α : Type} {δ : Nat} {f a b d B : Int} {F : Ob} {n r : Nat → Bool} {Q : Int → iST → Prop} {u v : iST} {E : Sp.Env} {R : EStateM.Result Unit Sp.Wk α} {K : Ob → Sp.M α} (hP : PdK_d B δ n r u v R (Sp.bd (Sp.mk3 F (oc v a) (oc v b) (oc v d)) K)) (hn : ∀ k, n k = false → f8B k = false) (hr : ∀ k, r k = false → f8W k = false) (fit : Fit B R) (hK : ∀ a, Mono (K a)) (hf : VN v f ∧ oc v f = F) (fs : F.isSym = true) (fq : F ≠ Ob.quote) (har : Sp.arOf E F = 3) (na : NdD v E a) (nb : NdD v E b) (nd : NdD v E d)
    (hq : ∀ t w, CG f8B f8W v w → (v.1 32 ≠ 0 → w.1 32 ≠ 0) → NdD w E t → PdK_d B (δ + 300) n r u w R (K (oc w t)) → (t = -1 → w.1 32 ≠ 0) → Q t w) : pv_10_call f a b d Q v := by
  have hT := hP.1.1
  have hl := hT.1.1
  obtain ⟨z0, z1⟩ := VN.zero hT
  have hwt : v.1 32 = 0 → Ob.wt (Sp.arOf E) (.pr F (.pr (oc v a) (.pr (oc v b) (.pr (oc v d) Ob.nil)))) := fun z => Ob.wt_mk (l := [oc v a, oc v b, oc v d]) fq fs har (fun x hx => by
    rcases List.mem_cons.mp hx with q | q
    · rw [q]; exact (na.2.2 z).2.1
    · rcases List.mem_cons.mp q with q | q
      · rw [q]; exact (nb.2.2 z).2.1
      · rcases List.mem_cons.mp q with q | q
        · rw [q]; exact (nd.2.2 z).2.1
        · cases q)
  have hroom : v.1 32 = 0 → v.1 29 + 4 ≤ 160000 := fun q => by have := PdK_d.room hP fit hK q; omega
  -- behind the third term
  have go23 : ∀ (y : Int) (v1 : iST), CG f8M f8R v v1 → v1.1 29 ≤ v.1 29 + 1 → VN v1 y → (v.1 32 = 0 → oc v1 y = .pr (oc v d) Ob.nil) → pv_10_call_23 Q f a b y v1 := by
    intro y v1 g1 h1 vy ey
    have e32 : v1.1 32 = v.1 32 := g1.2.2.1 32 (by decide)
    have hle := g1.le
    have na2 := na.2.1
    have nb2 := nb.2.1
    unfold pv_10_call_23
    refine ⟨fun hb => ?_, fun hb => ?_⟩
    · refine pc_pairG g1.1 (by omega) vy.2 (by
        by_cases q : v.1 32 = 0
        · have := hroom q; exact Or.inl (by omega)
        · exact Or.inr (by rw [e32]; exact q)) (fun k v2 g2 vk ek h2 => ?_)
      have g12 := g1.tr g2
      have hle2 := g2.le
      exact pc_call48_d (u1 := v2) (A := oc v a) (Y := .pr (oc v b) (.pr (oc v d) Ob.nil)) (c := 4) hP hn hr fit hK g12 (by omega) (by decide) hf ⟨by omega, fun z => ⟨(na.2.2 z).1.1, g12.oc hT (na.2.2 z).1.1 (na.2.2 z).1.2⟩⟩ ⟨vk, fun z => by rw [ek (by have := hroom z; omega) (nb.2.2 z).1.1 vy.1, ey z, g1.oc hT (nb.2.2 z).1.1 (nb.2.2 z).1.2]⟩ hwt hq
    · have hb := Decidable.not_not.mp hb
      have dead : v.1 32 ≠ 0 := fun z => by have := (nb.2.2 z).1.1; omega
      exact pc_call48_d (u1 := v1) (A := oc v a) (Y := .pr (oc v b) (.pr (oc v d) Ob.nil)) (c := 4) hP hn hr fit hK g1 (by omega) (by decide) hf ⟨by omega, fun z => absurd z dead⟩ ⟨vy, fun z => absurd z dead⟩ hwt hq
  unfold pv_10_call
  refine ⟨fun hd3 => ?_, fun hd3 => ?_⟩
  · refine pc_pairG hT nd.2.1 z0.2 (by
      by_cases q : v.1 32 = 0
      · have := hroom q; exact Or.inl (by omega)
      · exact Or.inr q) (fun k v1 g1 vk ek h1 => go23 k v1 g1 h1 vk (fun z => by rw [ek (by have := hroom z; omega) (nd.2.2 z).1.1 z0.1, z1]))
  · have hd3 := Decidable.not_not.mp hd3
    have dead : v.1 32 ≠ 0 := fun z => by have := (nd.2.2 z).1.1; omega
    exact go23 0 v (CG.rf hT) (by omega) z0 (fun z => absurd z dead)

theorem PdK_d.retd [DecidableEq Ob] {α : Type} {δ : Nat} {B : Int} {n r : Nat → Bool} {u v : iST} {R : EStateM.Result Unit Sp.Wk α} {x : Ob} {K : Ob → Sp.M α} (h : PdK_d B δ n r u v R (Sp.bd (Sp.ret x) K)) : PdK_d B δ n r u v R (K x) := h
theorem pc_negated_d [DecidableEq Ob] {α : Type} {δ : Nat} {a B : Int} {n r : Nat → Bool} {Q : Int → iST → Prop} {u v : iST} {E : Sp.Env} {R : EStateM.Result Unit Sp.Wk α} {K : Ob → Sp.M α} (hP : PdK_d B δ n r u v R (Sp.bd (Sp.mkNot (oc v a)) K)) (hn : ∀ k, n k = false → f8B k = false) (hr : ∀ k, r k = false → f8W k = false) (fit : Fit B R) (hK : ∀ a, Mono (K a)) (na : NdC v E a)
    (hq : ∀ t w, CG f8B f8W v w → (v.1 32 ≠ 0 → w.1 32 ≠ 0) → NdD w E t → PdK_d B (δ + 300) n r u w R (K (oc w t)) → (t = -1 → w.1 32 ≠ 0) → Q t w) : pv_10_negated a Q v := by
  have hT := hP.1.1
  have stay : ∀ t, NdC v E t → PdK_d B δ n r u v R (K (oc v t)) → Q t v := fun t nt hp => hq t v (CG.rf hT) id nt.d hp.w (fun z => by have := nt.1.1; omega)
  unfold Sp.mkNot at hP
  unfold pv_10_negated
  refine pc_isCallK 16 hT na.1 (by decide) (by decide) (o := Ob.not) rfl (fun r1 h1 => ⟨fun z1 => ?_, fun z1 => ?_⟩)
  · rw [if_neg (by rw [h1.f z1]; decide)] at hP
    refine pc_isConstant hT na.1 (fun r2 h2 => ⟨fun z2 => ?_, fun z2 => ?_⟩)
    · have nn : ¬ oc v a = Ob.nil := fun z => by
        have := h2.f z2
        rw [z] at this
        have this : (Ob.isNat Ob.nil || decide (Ob.nil = Ob.nil) || decide (Ob.nil = Ob.t)) = false := this
        rw [decide_eq_true rfl, Bool.or_true] at this
        cases this
      rw [if_neg nn, if_neg (by rw [h2.f z2]; decide)] at hP
      obtain ⟨k0, k1, k2⟩ := knC hT 16 (o := Ob.not) (by decide) (by decide) rfl
      exact pc_mk1_d hP hn hr fit hK ⟨⟨k0, k1⟩, k2⟩ (Ob.sym_isSym _) (Ob.sym_ne (by decide)) (arOf_not E) na.d hq
    · have k0 := katC hT 0 (o := Ob.nil) (by decide) (by decide) rfl na.1.1 na.1.2
      refine ⟨fun h0 => ?_, fun h0 => ?_⟩
      · rw [if_neg (fun z => h0 (k0.mpr z)), if_pos (h2.t z2)] at hP
        obtain ⟨nt, et⟩ := NdC.known hT E 0 (o := Ob.nil) (by decide) (by decide) rfl rfl
        exact stay 0 nt (by rw [et]; exact hP)
      · rw [if_pos (k0.mp (Decidable.not_not.mp h0))] at hP
        obtain ⟨nt, et⟩ := NdC.known hT E 1 (o := Ob.t) (by decide) (by decide) rfl rfl
        exact stay 1 nt (by rw [et]; exact hP)
  · have hc := h1.t z1
    rw [if_pos hc] at hP
    refine pc_item hT na.1 (by decide) (fun t ht et => ?_)
    have et : oc v t = (oc v a).item 1 := et
    exact stay t (na.one hc (Ob.sym_ne (by decide)) (arOf_not E) ht et) (by rw [et]; exact hP)
