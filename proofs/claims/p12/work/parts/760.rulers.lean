-- deps: 759
/-! the class: clauses in the making; the RULERS of a PATH -/
theorem PdK_d.any [DecidableEq Ob] {δ : Nat} {α : Type} {B : Int} {n r : Nat → Bool} {u v : iST} {R : EStateM.Result Unit Sp.Wk α} {m : Sp.M α} (h : PdK_d B δ n r u v R m) (z : v.1 32 ≠ 0) (m' : Sp.M α) : PdK_d B δ n r u v R m' := ⟨h.1, Or.inr (h.dead z)⟩
/-- a negation, also of what was not made -/
theorem pc_negN [DecidableEq Ob] {δ : Nat} {α : Type} {a B : Int} {n r : Nat → Bool} {Q : Int → iST → Prop} {u v : iST} {E : Sp.Env} {R : EStateM.Result Unit Sp.Wk α} {K : Ob → Sp.M α} (hP : PdK_d B δ n r u v R (Sp.bd (Sp.mkNot (oc v a)) K)) (hn : ∀ k, n k = false → f8B k = false) (hr : ∀ k, r k = false → f8W k = false) (fit : Fit B R) (hK : ∀ a, Mono (K a)) (na : NdD v E a)
    (hq : ∀ t w, CG f8B f8W v w → (v.1 32 ≠ 0 → w.1 32 ≠ 0) → NdD w E t → PdK_d B (δ + 300) n r u w R (K (oc w t)) → (t = -1 → w.1 32 ≠ 0) → Q t w) : pv_10_negated a Q v := by
  by_cases z : v.1 32 = 0
  · exact pc_negated_d hP hn hr fit hK (na.2.2 z) hq
  have hT := hP.1.1
  have u44 : 44 ≤ v.1 29 := hT.1.1.1
  have stay : ∀ t, -1 ≤ t → t < v.1 29 → Q t v := fun t t0 t1 => hq t v (CG.rf hT) id ⟨t0, t1, fun q => absurd q z⟩ (hP.any z _).w (fun _ => z)
  obtain ⟨k0, k1, k2⟩ := knC hT 16 (o := Ob.not) (by decide) (by decide) rfl
  have mk : pv_10_call 16 a (-1) (-1) (fun v3 u => Q v3 u) v := pc_mk1_d (F := Ob.not) (K := K) (hP.any z _) hn hr fit hK ⟨⟨k0, k1⟩, k2⟩ (Ob.sym_isSym _) (Ob.sym_ne (by decide)) (arOf_not E) na hq
  unfold pv_10_negated
  by_cases a0 : a < 0
  · unfold pv_7_isCallOf
    refine ⟨fun _ _ => ⟨fun _ => ?_, fun q => absurd rfl q⟩, fun q => absurd a0 q⟩
    unfold pv_7_isConstant
    exact ⟨fun _ _ => ⟨fun _ => mk, fun q => absurd rfl q⟩, fun q => absurd a0 q⟩
  · have va : VN v a := ⟨by omega, na.2.1⟩
    refine pc_isCallK 16 hT va (by decide) (by decide) (o := Ob.not) rfl (fun r1 _ => ⟨fun _ => ?_, fun _ => ?_⟩)
    · refine pc_isConstant hT va (fun r2 _ => ⟨fun _ => mk, fun _ => ⟨fun _ => stay 0 (by decide) (by omega), fun _ => stay 1 (by decide) (by omega)⟩⟩)
    · exact pc_item hT va (by decide) (fun t vt _ => stay t (by have := vt.1; omega) vt.2)
theorem pc_fillGe [DecidableEq Ob] {δ : Nat} {α : Type} {k B : Int} {n r : Nat → Bool} {Q' : Int → iST → Prop} {u0 v : iST} {E : Sp.Env} {R : EStateM.Result Unit Sp.Wk α} {s : Ob → Ob} {K' : Ob → Sp.M α} (hP : PdK_d B δ n r u0 v R (Sp.bd (Sp.fill s (oc v k)) K')) (hn : ∀ k, n k = false → f8B k = false) (hr : ∀ k, r k = false → f8W k = false) (fit : Fit B R) (hK : ∀ a, Mono (K' a)) (h6 : ∀ f, Sp.arOf E f ≤ 6) (nk : NdC v E k) (hB : BnOk v) (hs : ∀ x, vr false (oc v k) x → s x = Ob.lkD (bdL v) x) (hlw : ∀ x, Ob.isVar x = true → Ob.wt (Sp.arOf E) (Ob.lkD (bdL v) x) ∧ (Ob.lkD (bdL v) x).sz ≤ 120)
    (hq : ∀ t w, CG f8B f8W v w → (v.1 32 ≠ 0 → w.1 32 ≠ 0) → NdD w E t → PdK_d B (δ + (Ob.csM false (oc v k)).toNat) n r u0 w R (K' (oc w t)) → (t = -1 → w.1 32 ≠ 0) → Q' t w) : pv_10_rebuilt k 1 Q' v := by
  rw [fill_congr hs] at hP
  exact pc_fillU_e (xs := []) hP hn hr fit hK h6 nk hB rfl hlw (sb_wt false _ nk.2.1 (fun x hx => (hlw x hx.2).1)).1 (fun _ x hx => by cases hx) hq
theorem pc_fillG [DecidableEq Ob] {δ : Nat} {α : Type} {k B : Int} {n r : Nat → Bool} {Q' : Int → iST → Prop} {u0 v : iST} {E : Sp.Env} {R : EStateM.Result Unit Sp.Wk α} {s : Ob → Ob} {K' : Ob → Sp.M α} (hP : PdK_d B δ n r u0 v R (Sp.bd (Sp.fill s (oc v k)) K')) (hn : ∀ k, n k = false → f8B k = false) (hr : ∀ k, r k = false → f8W k = false) (fit : Fit B R) (hK : ∀ a, Mono (K' a)) (h6 : ∀ f, Sp.arOf E f ≤ 6) (nk : NdC v E k) (hB : BnOk v) (hs : ∀ x, vr false (oc v k) x → s x = Ob.lkD (bdL v) x) (hlw : ∀ x, Ob.isVar x = true → Ob.wt (Sp.arOf E) (Ob.lkD (bdL v) x) ∧ (Ob.lkD (bdL v) x).sz ≤ 120)
    (hq : ∀ t w, CG f8B f8W v w → (v.1 32 ≠ 0 → w.1 32 ≠ 0) → NdD w E t → PdK_d B (δ + 300) n r u0 w R (K' (oc w t)) → (t = -1 → w.1 32 ≠ 0) → Q' t w) : pv_10_rebuilt k 1 Q' v := by
  rw [fill_congr hs] at hP
  exact pc_fill_d hP hn hr fit hK h6 nk hB rfl hlw (sb_wt false _ nk.2.1 (fun x hx => (hlw x hx.2).1)).1 hq
theorem pc_fillGU [DecidableEq Ob] {δ : Nat} {α : Type} {xs : List Ob} {k B : Int} {n r : Nat → Bool} {Q' : Int → iST → Prop} {u0 v : iST} {E : Sp.Env} {R : EStateM.Result Unit Sp.Wk α} {s : Ob → Ob} {K' : Ob → Sp.M α} (hP : PdK_d B δ n r u0 v R (Sp.bd (Sp.fillU xs s (oc v k)) K')) (hn : ∀ k, n k = false → f8B k = false) (hr : ∀ k, r k = false → f8W k = false) (fit : Fit B R) (hK : ∀ a, Mono (K' a)) (h6 : ∀ f, Sp.arOf E f ≤ 6) (nk : NdC v E k) (hB : BnOk v) (hs : ∀ x, vr false (oc v k) x → s x = Ob.lkD (bdL v) x) (hlw : ∀ x, Ob.isVar x = true → Ob.wt (Sp.arOf E) (Ob.lkD (bdL v) x) ∧ (Ob.lkD (bdL v) x).sz ≤ 120) (hxs : v.1 32 = 0 → ∀ x, x ∈ xs → ExT v x ∧ x.sz ≤ 120)
    (hq : ∀ t w, CG f8B f8W v w → (v.1 32 ≠ 0 → w.1 32 ≠ 0) → NdD w E t → PdK_d B (δ + 300) n r u0 w R (K' (oc w t)) → (t = -1 → w.1 32 ≠ 0) → Q' t w) : pv_10_rebuilt k 1 Q' v := by
  rw [fillU_congr hs] at hP
  exact pc_fillU_d hP hn hr fit hK h6 nk hB rfl hlw (sb_wt false _ nk.2.1 (fun x hx => (hlw x hx.2).1)).1 hxs hq
/-- no STEP is made -/
def NoT [DecidableEq Ob] {α : Type} (m : Sp.M α) : Prop := ∀ s, (match m s with | .ok _ s' => s'.1 | .error _ s' => s'.1) = s.1 ∧ s.2 ≤ cntR (m s)
/-- it fails, with no STEP -/
def Die [DecidableEq Ob] {α : Type} (m : Sp.M α) : Prop := ∀ s, ∃ s', m s = .error () s' ∧ s'.1 = s.1 ∧ s.2 ≤ s'.2
theorem Die.fail [DecidableEq Ob] {α : Type} : Die (Sp.fail (α := α)) := fun s => ⟨s, rfl, rfl, Nat.le_refl _⟩
theorem Die.bd [DecidableEq Ob] {α β : Type} {m : Sp.M α} {k : α → Sp.M β} (h : NoT m) (g : ∀ a, Die (k a)) : Die (Sp.bd m k) := fun s => by
  have h1 := h s
  cases e : m s with
  | ok a s1 =>
    rw [e] at h1
    have h1 : s1.1 = s.1 ∧ s.2 ≤ s1.2 := h1
    obtain ⟨s', e1, e2, e3⟩ := g a s1
    exact ⟨s', by rw [bind_ok e]; exact e1, e2.trans h1.1, Nat.le_trans h1.2 e3⟩
  | error x s1 =>
    rw [e] at h1
    exact ⟨s1, by rw [bind_err e], h1⟩
theorem Die.left [DecidableEq Ob] {α β : Type} {m : Sp.M α} (h : Die m) (k : α → Sp.M β) : Die (Sp.bd m k) := fun s => by
  obtain ⟨s', e1, e2⟩ := h s
  exact ⟨s', bind_err e1, e2⟩
theorem NoT.ret [DecidableEq Ob] {α : Type} {a : α} : NoT (Sp.ret a) := fun _ => ⟨rfl, Nat.le_refl _⟩
theorem NoT.big [DecidableEq Ob] {o : Ob} {n : Nat} : NoT (Sp.big o n) := fun s => by
  unfold Sp.big
  by_cases c : 120 < Ob.sz o
  · rw [if_pos c]; exact ⟨rfl, Nat.le_add_right _ _⟩
  · rw [if_neg c]; exact ⟨rfl, Nat.le_add_right _ _⟩
theorem NoT.ite [DecidableEq Ob] {α : Type} {c : Prop} [Decidable c] {m n : Sp.M α} (h : NoT m) (g : NoT n) : NoT (if c then m else n) := by
  split
  · exact h
  · exact g
theorem NoT.not [DecidableEq Ob] {o : Ob} : NoT (Sp.mkNot o) := by
  unfold Sp.mkNot
  exact NoT.ite NoT.ret (NoT.ite NoT.ret (NoT.ite NoT.ret NoT.big))
theorem NoT.bd [DecidableEq Ob] {α β : Type} {m : Sp.M α} {k : α → Sp.M β} (h : NoT m) (g : ∀ a, NoT (k a)) : NoT (Sp.bd m k) := fun s => by
  have h1 := h s
  cases e : m s with
  | ok a s1 =>
    rw [e] at h1
    have h1 : s1.1 = s.1 ∧ s.2 ≤ s1.2 := h1
    rw [bind_ok e]
    exact ⟨(g a s1).1.trans h1.1, Nat.le_trans h1.2 (g a s1).2⟩
  | error x s1 =>
    rw [e] at h1
    rw [bind_err e]
    exact h1
theorem bndF [DecidableEq Ob] {l : List Ob} {o : Ob} (h : Sp.bnd l = false) : Sp.bnd (Sp.putL l o) = false := bf_of (fun q => by rw [bnd_put q] at h; cases h)
theorem die_bounded [DecidableEq Ob] {l : List Ob} (h : Sp.bnd l = false) : Die (Sp.bounded l) := fun s => ⟨s, by unfold Sp.bounded; rw [if_neg (by rw [h]; decide)]; rfl, rfl, Nat.le_refl _⟩
theorem rulers_cons [DecidableEq Ob] {α : Type} (σ : Ob → Ob) (q : Ob) (t : Bool) (ps : List (Ob × Bool)) (l : List Ob) (K : List Ob → Sp.M α) : Sp.bd (Sp.rulersGo σ ((q, t) :: ps) l) K = Sp.bd (Sp.fill σ q) (fun x => Sp.bd (if t then Sp.mkNot x else Sp.ret x) (fun r => Sp.bd (Sp.mkNot r) (fun y => Sp.bd (Sp.rulersGo σ ps (Sp.putL l y)) K))) := by
  show Sp.bd (Sp.bd (Sp.fill σ q) (fun x => Sp.bd (if t then Sp.mkNot x else Sp.ret x) (fun r => Sp.bd (Sp.mkNot r) (fun y => Sp.rulersGo σ ps (Sp.putL l y))))) K = _
  simp only [bd_assoc]
theorem rulers_die [DecidableEq Ob] {α : Type} {σ : Ob → Ob} {K : List Ob → Sp.M α} (hK : ∀ l, Sp.bnd l = false → Die (K l)) : ∀ (ps : List (Ob × Bool)) (l : List Ob), Sp.bnd l = false → Die (Sp.bd (Sp.rulersGo σ ps l) K)
  | [], l, h => fun s => hK l h s
  | (q, t) :: ps, l, h => by
    rw [rulers_cons]
    exact Die.bd NoT.big (fun x => Die.bd (NoT.ite NoT.not NoT.ret) (fun r => Die.bd NoT.not (fun y => rulers_die hK ps _ (bndF h))))
theorem rulers_mono [DecidableEq Ob] {σ : Ob → Ob} : ∀ (ps : List (Ob × Bool)) (l : List Ob), Mono (Sp.rulersGo σ ps l)
  | [], _ => Mono.ret
  | (q, t) :: ps, l => by
    show Mono (Sp.bd (Sp.fill σ q) (fun x => Sp.bd (if t then Sp.mkNot x else Sp.ret x) (fun r => Sp.bd (Sp.mkNot r) (fun y => Sp.rulersGo σ ps (Sp.putL l y)))))
    exact Mono.bd Mono.big (fun x => Mono.bd (Mono.ite Mono.not Mono.ret) (fun r => Mono.bd Mono.not (fun y => rulers_mono ps _)))
theorem pc_insertK [DecidableEq Ob] {c p x z : Int} {Q : Int → iST → Prop} {u : iST} (hT : CT u) (hq : ∀ r v, CkC c u v → v.1 = u.1 → Q r v) : pv_1_insert c p x z Q u := by
  unfold pv_1_insert
  refine pv_1_insert_3_i (fun x0 _ _ _ _ y => x0 = c ∧ y = u) ?_ ⟨rfl, rfl⟩
  rintro x0 x1 x2 x3 x4 y ⟨b0, b⟩
  rw [b0, b]
  unfold pv_1_insert_3b
  intro n1 en1 _
  refine ⟨fun _ => ⟨fun _ _ => hq 0 u (CkC.rf hT) rfl, fun _ => ?_⟩, fun _ => ?_⟩
  · intro n2 en2 _
    refine ⟨fun _ _ => hq 0 u (CkC.rf hT) rfl, fun _ => ?_⟩
    intro n3 en3 _
    refine ⟨fun _ => ?_, fun _ _ => hq 0 u (CkC.rf hT) rfl⟩
    intro n4 en4 _
    refine pv_1_insert_60_i (fun x0 _ _ _ _ y => x0 = c ∧ CkC c u y ∧ y.1 = u.1) ?_ ⟨rfl, CkC.rf hT, rfl⟩
    rintro x0 x1 x2 x3 x4 y ⟨d0, ky, yn⟩
    rw [d0]
    unfold pv_1_insert_60b
    refine ⟨fun _ => ?_, fun _ => ?_⟩
    · intro i0 i1 y1 e1 n5 en5 _ _ y2 e2 n7 en7 _ n8 en8 _ y3 e3 n9 en9 _
      have k1 : CkC c y y1 := by rw [e1]; exact CkC_L ky.1.1 (by omega) (by omega)
      have k2 : CkC c y1 y2 := by rw [e2]; exact CkC_A k1.1.1 (by decide) (by decide)
      have k3 : CkC c y2 y3 := by rw [e3]; exact CkC_A k2.1.1 (by decide) (by decide)
      have yn3 : y3.1 = u.1 := by rw [e3, e2, e1]; exact yn
      exact ⟨fun _ _ => hq 0 y3 (((ky.tr k1).tr k2).tr k3) yn3, fun _ _ => hq 1 y3 (((ky.tr k1).tr k2).tr k3) yn3⟩
    · intro _ _ _ n11 en11 _ i0 i1 y1 e1 _
      have k1 : CkC c y y1 := by rw [e1]; exact CkC_L ky.1.1 (by omega) (by omega)
      exact ⟨rfl, ky.tr k1, by rw [e1]; exact yn⟩
  · intro _ _ n13 en13 _
    exact ⟨fun _ _ => ⟨rfl, rfl⟩, fun _ _ => hq 1 u (CkC.rf hT) rfl⟩
theorem CkC.oT [DecidableEq Ob] {c : Int} {u v w : iST} (k : CkC c u v) (g : CG f8T f80 v w) : CG f8T f8C u w ∧ OtC (fun j => j ≠ c) u w := ⟨(k.1.mono f80_T (fun _ h => h)).tr (g.mono (fun _ h => h) f8C_any), (k.ot (fun j hj => hj)).tr (OtC.of (fun j _ _ => g.2.2.2 j rfl))⟩
theorem pc_joinK [DecidableEq Ob] {c x : Int} {Q : iST → Prop} {u : iST} (hT : CT u) (hx : x < u.1 29 ∧ -1 ≤ x) (hq : ∀ v, CG f8T f8C u v → OtC (fun j => j ≠ c) u v → (u.1 32 ≠ 0 → v.1 32 ≠ 0) → Q v) : pv_10_join c x Q u := by
  unfold pv_10_join
  refine ⟨fun _ => hq u (CG.rf hT) OtC.rf id, fun q => ?_⟩
  intro n1 en1 _
  refine pc_sizeOf hT ⟨by omega, hx.1⟩ ?_
  refine pc_insertK hT (fun r v kv vn => ⟨fun _ => hq v (kv.1.mono f80_T (fun _ h => h)) (kv.ot (fun j hj => hj)) (fun z => by rw [vn]; exact z), fun _ => ?_⟩)
  exact blame_dead kv.1.1 (by decide) (fun w gw w32 => hq w (kv.oT gw).1 (kv.oT gw).2 (fun _ => w32))
/-- a literal is put behind those of a clause -/
theorem pc_joinP [DecidableEq Ob] {δ : Nat} {α : Type} {c x B : Int} {n r : Nat → Bool} {Q : iST → Prop} {u v : iST} {E : Sp.Env} {R : EStateM.Result Unit Sp.Wk α} {K : List Ob → Sp.M α} (hP : PdK_d B δ n r u v R (K (Sp.putL (clC v c) (oc v x)))) (hn : ∀ k, n k = false → f8T k = false) (hr : ∀ k, r k = false → f8C k = false) (hC : v.1 32 = 0 → ClW v E c ∧ Sp.bnd (clC v c) = true) (nx : NdD v E x) (hK : ∀ l, Sp.bnd l = false → Die (K l))
    (hq : ∀ w, CG f8T f8C v w → OtC (fun j => j ≠ c) v w → (v.1 32 ≠ 0 → w.1 32 ≠ 0) → (w.1 32 = 0 → CkC c v w ∧ ClW w E c ∧ Sp.bnd (clC w c) = true ∧ w.2.1 48 = v.2.1 48) → PdK_d B δ n r u w R (K (clC w c)) → Q w) : pv_10_join c x Q v := by
  by_cases z : v.1 32 = 0
  · obtain ⟨hW, hb⟩ := hC z
    have nc := nx.2.2 z
    have hT := hP.1.1
    have x0 := nc.1.1
    have dead : ∀ w, CG f8T f8C v w → OtC (fun j => j ≠ c) v w → w.1 32 ≠ 0 → Sp.bnd (Sp.putL (clC v c) (oc v x)) = false → Q w := fun w gw ow w32 hbd => by
      refine hq w gw ow (fun q => absurd z q) (fun q => absurd q w32) ⟨hP.1.tr (gw.mono hn hr), Or.inr ?_⟩
      obtain ⟨s, hl, e⟩ := hP.live z
      obtain ⟨s', e1, e2, e3⟩ := hK _ hbd s
      exact ⟨s', ⟨w32, hl.2.1.cg gw (by decide) (by decide) e2, by have h1 := hl.2.2; have h2 := gw.2.2.1 29 (by decide); omega⟩, e.trans e1⟩
    have fine : ∀ w, CkC c v w → w.1 = v.1 → w.2.1 48 = v.2.1 48 → ClW w E c → clC w c = Sp.putL (clC v c) (oc v x) → Sp.bnd (clC w c) = true → Q w := fun w kw wn w48 hW2 e hb2 => by
      refine hq w (kw.1.mono f80_T (fun _ h => h)) (kw.ot (fun j hj => hj)) (fun q => absurd z q) (fun _ => ⟨kw, hW2, hb2, w48⟩) ?_
      rw [e]
      exact hP.on kw.1 (fun k hk => rfl) hr (by rw [wn]) (by rw [wn]) (by rw [wn]) (by rw [wn])
    have hb' := bnd_iff.mp hb
    have hl := hW.1
    have hlen := clC_len v c
    unfold pv_10_join
    refine ⟨fun q => by omega, fun _ => ?_⟩
    intro n1 en1 _
    refine pc_sizeOf hT nc.1 ?_
    rw [en1]
    refine pc_insert (E := E) hT hW nc (by omega) (Int.le_refl _) (szC_nd nc) (fun hin => ?_) (fun hno h30 => ?_) (fun r w hno kw wn w48 hW2 e hr01 hr0 => ?_)
    · refine ⟨fun _ => fine v (CkC.rf hT) rfl rfl hW (putL_yes hin).symm hb, fun q => absurd (by decide) q⟩
    · refine ⟨fun q => absurd rfl q, fun _ => blame_dead hT (by decide) (fun w gw w32 => dead w ((CkC.rf (c := c) hT).oT gw).1 ((CkC.rf (c := c) hT).oT gw).2 w32 (bf_of (fun q => ?_)))⟩
      have := (bnd_iff.mp q).1
      rw [putL_no hno, List.length_append] at this
      have this : (clC v c).length + 1 ≤ 30 := this
      omega
    · have ew : clC w c = Sp.putL (clC v c) (oc v x) := by
        rw [e, putL_no hno, List.take_of_length_le (by omega), List.drop_eq_nil_of_le (by omega)]
      have hs := hW2.2.2.2
      have hlw := hW2.1
      have hlen2 := clC_len w c
      refine ⟨fun q => fine w kw wn w48 hW2 ew (bnd_iff.mpr ⟨by omega, ?_⟩), fun q => ?_⟩
      · have : ¬ 400 < w.2.1 47 c := fun h => q (hr0.mpr h)
        omega
      · have q := Decidable.not_not.mp q
        have := hr0.mp q
        refine blame_dead kw.1.1 (by decide) (fun w2 gw w32 => dead w2 (kw.oT gw).1 (kw.oT gw).2 w32 (bf_of (fun h => ?_)))
        have := (bnd_iff.mp h).2
        rw [← ew] at this
        omega
  · refine pc_joinK hP.1.1 ⟨nx.2.1, nx.1⟩ (fun w gw ow w32 => hq w gw ow w32 (fun q => absurd q (w32 z)) ⟨hP.1.tr (gw.mono hn hr), Or.inr ?_⟩)
    obtain ⟨s, hl, e⟩ := hP.dead (δ' := δ) z
    exact ⟨s, gw.dd hl (by decide) (by decide) w32, e⟩
def f8Yn (k : Nat) : Bool := decide (k = 29) || decide (k = 32) || decide (k = 39)
def f8Yr (k : Nat) : Bool := decide (27 ≤ k ∧ k ≤ 30) || decide (35 ≤ k ∧ k ≤ 43) || decide (46 ≤ k ∧ k ≤ 49)
theorem f8B_Y [DecidableEq Ob] : ∀ k, f8Yn k = false → f8B k = false := fun k h => (Bool.or_eq_false_iff.mp h).1
theorem f8T_Y [DecidableEq Ob] : ∀ k, f8Yn k = false → f8T k = false := fun k h => by
  have h := (Bool.or_eq_false_iff.mp (Bool.or_eq_false_iff.mp h).1).2
  exact h
theorem f8b_Y [DecidableEq Ob] : ∀ k, f8Yn k = false → f8b k = false := fun k h => (Bool.or_eq_false_iff.mp h).2
theorem f8W_Y [DecidableEq Ob] : ∀ k, f8Yr k = false → f8W k = false := fun k h => by
  unfold f8Yr at h
  unfold f8W
  simp only [Bool.or_eq_false_iff, decide_eq_false_iff_not] at h ⊢
  omega
theorem f8m_Y [DecidableEq Ob] : ∀ k, f8Yr k = false → f8m k = false := fun k h => by
  unfold f8Yr at h
  unfold f8m
  simp only [Bool.or_eq_false_iff, decide_eq_false_iff_not] at h ⊢
  omega
theorem f8C_Y [DecidableEq Ob] : ∀ k, f8Yr k = false → f8C k = false := fun k h => (Bool.or_eq_false_iff.mp h).2
theorem preP_at [DecidableEq Ob] (v : iST) : ∀ (n k : Nat), k < n → (preP v n)[k]? = some (Ob.item (oc v (v.2.1 31 (k : Int))) 1, decide (v.2.1 32 (k : Int) ≠ 0)) ∧ (preP v n).length = n
  | 0, _, h => absurd h (Nat.not_lt_zero _)
  | n + 1, k, h => by
    have hl : (preP v n).length = n := by
      cases n with
      | zero => rfl
      | succ m => exact (preP_at v (m + 1) 0 (by omega)).2
    have e : preP v (n + 1) = preP v n ++ [(Ob.item (oc v (v.2.1 31 (n : Int))) 1, decide (v.2.1 32 (n : Int) ≠ 0))] := rfl
    rw [e]
    refine ⟨?_, by rw [List.length_append, hl]; rfl⟩
    by_cases c : k < n
    · rw [List.getElem?_append_left (by omega)]
      exact (preP_at v n k c).1
    · have : k = n := by omega
      rw [this, List.getElem?_append_right (by omega), hl, Nat.sub_self]
      rfl
theorem drop_of [DecidableEq Ob] {α : Type} {l : List α} {i : Nat} {a : α} (h : l[i]? = some a) : l.drop i = a :: l.drop (i + 1) := by
  obtain ⟨hl, e⟩ := List.getElem?_eq_some_iff.mp h
  rw [List.drop_eq_getElem_cons hl, e]
/-- what a clause in the making is, if the work goes on -/
def CmC [DecidableEq Ob] (E : Sp.Env) (c : Int) (v w : iST) : Prop := OtC (fun j => j ≠ c) v w ∧ ClW w E c ∧ Sp.bnd (clC w c) = true ∧ w.2.1 48 c = v.2.1 48 c
theorem pc_addRulers [DecidableEq Ob] {δ : Nat} {α : Type} {c a b B : Int} {d : Nat} {n r : Nat → Bool} {Q : iST → Prop} {u v : iST} {E : Sp.Env} {ar : Ob → Int} {R : EStateM.Result Unit Sp.Wk α} {σ : Ob → Ob} {K : List Ob → Sp.M α} (hP : PdK_d B δ n r u v R (Sp.bd (Sp.rulersGo σ (preP v d) (clC v c)) K)) (hn : ∀ k, n k = false → f8Yn k = false) (hr : ∀ k, r k = false → f8Yr k = false) (fit : Fit B R) (hK : ∀ a, Mono (K a)) (hKd : ∀ l, Sp.bnd l = false → Die (K l)) (hd : v.1 33 = (d : Int)) (hS : StP v ar d) (hw : ∀ q, q ∈ preP v d → Ob.wt (Sp.arOf E) q.1 ∧ q.1.sz ≤ 120) (h6 : ∀ f, Sp.arOf E f ≤ 6) (hC : v.1 32 = 0 → ClW v E c ∧ Sp.bnd (clC v c) = true)
    (va : VN v a) (vb : VN v b) (hl : itN (oc v a) = itN (oc v b)) (hm : itN (oc v a) ≤ 256) (hσ : ∀ q, q ∈ preP v d → ∀ x, vr false q.1 x → σ x = Ob.lkD ((Ob.toList (oc v a)).zip (Ob.toList (oc v b))) x) (hlw : ∀ x, Ob.isVar x = true → Ob.wt (Sp.arOf E) (Ob.lkD ((Ob.toList (oc v a)).zip (Ob.toList (oc v b))) x) ∧ (Ob.lkD ((Ob.toList (oc v a)).zip (Ob.toList (oc v b))) x).sz ≤ 120)
    (hq : ∀ w, CG f8Yn f8Yr v w → (v.1 32 ≠ 0 → w.1 32 ≠ 0) → (w.1 32 = 0 → CmC E c v w) → PdK_d B (δ + 900) n r u w R (K (clC w c)) → Q w) : pv_8_addRulers c a b Q v := by
  have hT := hP.1.1
  have nB : ∀ k, n k = false → f8B k = false := fun k h => f8B_Y k (hn k h)
  have rW : ∀ k, r k = false → f8W k = false := fun k h => f8W_Y k (hr k h)
  unfold pv_8_addRulers
  refine pc_bindRow hT va vb hl hm (fun v0 g0 b0 e0 c0 => ?_)
  have P0 := hP.on g0 (fun k h => f8b_Y k (hn k h)) (fun k h => f8m_Y k (hr k h)) (g0.2.2.1 29 (by decide)) (g0.2.2.1 30 (by decide)) (g0.2.2.1 31 (by decide)) (g0.2.2.1 32 (by decide))
  have r0 : ∀ k, 46 ≤ k → k ≤ 49 → v0.2.1 k = v.2.1 k := fun k h1 h2 => g0.2.2.2 k (by unfold f8m; simp only [Bool.or_eq_false_iff, decide_eq_false_iff_not]; omega)
  have z0 : v0.1 32 = v.1 32 := g0.2.2.1 32 (by decide)
  have l0 : clC v0 c = clC v c := by
    unfold clC
    rw [r0 46 (by decide) (by decide), r0 49 (by decide) (by decide)]
    unfold lsC
    exact List.map_congr_left (fun i _ => oc_same c0 _)
  refine pv_8_addRulers_12_i (fun x1 x4 y => x1 = c ∧ ∃ k : Nat, x4 = (k : Int) ∧ k ≤ d ∧ CG f8Yn f8Yr v y ∧ (v.1 32 ≠ 0 → y.1 32 ≠ 0) ∧ BnOk y ∧ bdL y = (Ob.toList (oc v a)).zip (Ob.toList (oc v b)) ∧ (y.1 32 = 0 → CmC E c v y) ∧ PdK_d B (δ + 900) n r u y R (Sp.bd (Sp.rulersGo σ ((preP v d).drop k) (clC y c)) K)) ?_ ⟨rfl, 0, rfl, Nat.zero_le _, g0.mono f8b_Y f8m_Y, fun z => by rw [z0]; exact z, b0, e0, fun z => ?_, by rw [List.drop_zero, l0]; exact P0.w⟩
  rotate_left
  · rw [z0] at z
    obtain ⟨hW, hb⟩ := hC z
    obtain ⟨hW0, _⟩ := hW.up hT g0 r0
    exact ⟨OtC.of r0, hW0, by rw [l0]; exact hb, by rw [r0 48 (by decide) (by decide)]⟩
  rintro x1 x4 y ⟨b1, k, b4, hk, gy, yd, hB, eB, hCm, hPy⟩
  rw [b1, b4]
  have hTy := gy.1
  have y33 : y.1 33 = (d : Int) := (gy.2.2.1 33 (by decide)).trans hd
  have y31 : y.2.1 31 = v.2.1 31 := gy.2.2.2 31 (by decide)
  have y32r : y.2.1 32 = v.2.1 32 := gy.2.2.2 32 (by decide)
  unfold pv_8_addRulers_12b
  intro v2 e2 _
  rw [y33] at e2
  refine ⟨fun h => ?_, fun h => ?_⟩
  · refine hq y gy yd hCm ?_
    have : (preP v d).drop k = [] := by
      refine List.drop_eq_nil_of_le ?_
      cases d with
      | zero => exact Nat.zero_le _
      | succ m => rw [(preP_at v (m + 1) 0 (by omega)).2]; omega
    rw [this] at hPy
    exact hPy
  intro v3 e3 _
  refine ⟨fun z => hq y gy yd hCm (hPy.any (by rw [← e3]; exact z) _), fun z => ?_⟩
  have ya : y.1 32 = 0 := by rw [← e3]; exact Decidable.not_not.mp z
  have hPy := hPy.zero (δ' := 0) ya
  obtain ⟨ho, hW, hb, h48⟩ := hCm ya
  have kd : k < d := by omega
  obtain ⟨a1, a2, a3, a4⟩ := hS k kd
  have pk := (preP_at v d k kd).1
  rw [drop_of pk, rulers_cons] at hPy
  intro _ _ v4 e4 _
  rw [y31] at e4
  rw [← e4] at a1 a2 a3 a4 pk hPy
  have mem := List.mem_of_getElem? pk
  obtain ⟨qw, qz⟩ := hw _ mem
  have eq4 : oc y v4 = oc v v4 := gy.oc hT a1.1 a1.2
  refine pc_item hTy (a1.up gy) (by decide) (fun v5 vv5 e5 => ?_)
  have e5 : oc y v5 = (oc y v4).item 1 := e5
  rw [eq4] at e5
  rw [← e5] at hPy
  have n5 : NdC y E v5 := ⟨vv5, by rw [e5]; exact qw, by rw [e5]; exact qz⟩
  have mono2 : ∀ (l : List Ob) (o : Ob), Mono (Sp.bd (Sp.mkNot o) (fun z => Sp.bd (Sp.rulersGo σ ((preP v d).drop (k + 1)) (Sp.putL l z)) K)) := fun l o => Mono.bd Mono.not (fun _ => Mono.bd (rulers_mono _ _) hK)
  -- the ruler is there: its negation is put behind
  have fin : ∀ (y0 : Int) (w : iST), CG f8B f8W y w → (y.1 32 ≠ 0 → w.1 32 ≠ 0) → NdD w E y0 → PdK_d B 600 n r u w R (Sp.bd (Sp.mkNot (oc w y0)) (fun z => Sp.bd (Sp.rulersGo σ ((preP v d).drop (k + 1)) (Sp.putL (clC y c) z)) K)) → pv_8_addRulers_80 (fun x1 x4 y => x1 = c ∧ ∃ k : Nat, x4 = (k : Int) ∧ k ≤ d ∧ CG f8Yn f8Yr v y ∧ (v.1 32 ≠ 0 → y.1 32 ≠ 0) ∧ BnOk y ∧ bdL y = (Ob.toList (oc v a)).zip (Ob.toList (oc v b)) ∧ (y.1 32 = 0 → CmC E c v y) ∧ PdK_d B (δ + 900) n r u y R (Sp.bd (Sp.rulersGo σ ((preP v d).drop k) (clC y c)) K)) Q c (k : Int) y0 w := by
    intro y0 w gw wd n0 hPw
    unfold pv_8_addRulers_80
    refine pc_negN hPw nB rW fit (fun a => Mono.bd (rulers_mono _ _) hK) n0 (fun t w1 gw1 w1d nt hP1 _ => ?_)
    have g1 := gw.tr gw1
    obtain ⟨W1, l1⟩ := hW.up hTy g1 (f8B_rows g1)
    rw [← l1] at hP1
    refine pc_joinP (K := fun l => Sp.bd (Sp.rulersGo σ ((preP v d).drop (k + 1)) l) K) hP1 (fun j h => f8T_Y j (hn j h)) (fun j h => f8C_Y j (hr j h)) (fun _ => ⟨W1, by rw [l1]; exact hb⟩) nt (fun l h => rulers_die hKd _ l h) (fun w2 gw2 _ w2d hal hP2 => ?_)
    intro _
    have g2 : CG f8Yn f8Yr v w2 := gy.tr ((g1.mono f8B_Y f8W_Y).tr (gw2.mono f8T_Y f8C_Y))
    have k39 : w2.1 39 = y.1 39 := by rw [gw2.2.2.1 39 (by decide), g1.2.2.1 39 (by decide)]
    have k35 : w2.2.1 35 = y.2.1 35 := by rw [gw2.2.2.2 35 (by decide), g1.2.2.2 35 (by decide)]
    have k36 : w2.2.1 36 = y.2.1 36 := by rw [gw2.2.2.2 36 (by decide), g1.2.2.2 36 (by decide)]
    obtain ⟨B2, eB2⟩ := hB.mono hTy (((g1.mono f8B_Y f8W_Y).tr (gw2.mono f8T_Y f8C_Y))) k39 k35 k36
    refine ⟨rfl, k + 1, by omega, by omega, g2, fun q => absurd ya (yd q), B2, eB2.trans eB, fun q => ?_, hP2.w⟩
    obtain ⟨ck, W2, b2, e48⟩ := hal q
    refine ⟨ho.tr ((OtC.of (f8B_rows g1)).tr (ck.ot (fun j hj => hj))), W2, b2, ?_⟩
    rw [e48, f8B_rows g1 48 (by decide) (by decide)]
    exact h48
  refine pc_fillG hPy nB rW fit (fun x => Mono.bd (Mono.ite Mono.not Mono.ret) (fun _ => mono2 _ _)) h6 n5 hB (fun x hx => by rw [eB]; rw [e5] at hx; exact hσ _ mem x hx) (fun x hx => by rw [eB]; exact hlw x hx) (fun v6 w gw wd n6 hPw _ => ?_)
  intro _ _ v7 e7 _
  have w32r : w.2.1 32 = v.2.1 32 := (gw.2.2.2 32 (by decide)).trans y32r
  rw [w32r] at e7
  refine ⟨fun q => ?_, fun q => ?_⟩
  · rw [e7] at q
    rw [decide_eq_false (fun h => h q)] at hPw
    exact fin v6 w gw wd n6 hPw.w
  · rw [e7] at q
    rw [decide_eq_true q] at hPw
    have hPw : PdK_d B 300 n r u w R (Sp.bd (Sp.mkNot (oc w v6)) (fun r => Sp.bd (Sp.mkNot r) (fun z => Sp.bd (Sp.rulersGo σ ((preP v d).drop (k + 1)) (Sp.putL (clC y c) z)) K))) := hPw
    exact pc_negN hPw nB rW fit (fun x => mono2 _ _) n6 (fun t w1 gw1 w1d nt hP1 _ => fin t w1 (gw.tr gw1) (fun q => w1d (wd q)) nt hP1)
