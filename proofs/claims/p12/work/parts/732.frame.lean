-- deps: 731
/-! the class: within a frame -/
def FmJ [DecidableEq Ob] {α : Type} (u0 : iST) (E : Sp.Env) (B : Int) (R : EStateM.Result Unit Sp.Wk α) (Q : Int → iST → Prop) (d : Nat) (c x g row : Int) (v0 : iST) (T : Int) (K : Ob → Sp.M α) : Prop := CtJ u0 E B R Q ∧ RjG u0 E B R Q d ∧ OwJ u0 E B R Q c x g row v0 T K ∧ (∀ a, Mono (K a)) ∧ 0 ≤ c ∧ c + 1 + (d : Int) = 60 ∧ 0 ≤ T
def StJ [DecidableEq Ob] (E : Sp.Env) (c x g row : Int) (ctx : List Ob) (v0 v : iST) : Prop := RjK c v0 v ∧ FrJ c x g row (v0.1 26) v ∧ v.1 32 = 0 ∧ NdC v E x ∧ CxC v E row ctx ∧ (g = 0 ∨ g = 1)
theorem StJ.ct [DecidableEq Ob] {E : Sp.Env} {c x g row : Int} {ctx : List Ob} {v0 v : iST} (h : StJ E c x g row ctx v0 v) : CT v := h.1.1.1
theorem StJ.keep [DecidableEq Ob] {E : Sp.Env} {c x g row : Int} {ctx : List Ob} {v0 v w : iST} (h : StJ E c x g row ctx v0 v) (k : RjK (c + 1) v w) (h23 : w.1 23 = c + 1) (h32 : w.1 32 = 0) : StJ E c x g row ctx v0 w := ⟨h.1.tr k (by omega), h.2.1.keep h23 (fun j hj _ => k.2.1 j (by omega)) k.2.2, h32, (h.2.2.2.1.up h.1.1.1 k.1).1, h.2.2.2.2.1.up h.1.1.1 k.1, h.2.2.2.2.2⟩
theorem StJ.gen [DecidableEq Ob] {E : Sp.Env} {c x g row : Int} {ctx : List Ob} {v0 v w : iST} {n r : Nat → Bool} (h : StJ E c x g row ctx v0 v) (k : CG n r v w) (hn : ∀ k, f8Jn k = false → n k = false) (hr : ∀ k, f8Jr k = false → r k = false) (n23 : n 23 = false) (r51 : r 51 = false ∧ r 52 = false ∧ n 26 = false ∧ n 31 = false) (h32 : w.1 32 = 0) : StJ E c x g row ctx v0 w := h.keep (RjK.of k hn hr r51) (by rw [k.2.2.1 23 n23]; exact h.2.1.1) h32
theorem StJ.set [DecidableEq Ob] {E : Sp.Env} {c x g row i y : Int} {ctx : List Ob} {v0 v w : iST} (h : StJ E c x g row ctx v0 v) (ew : w = iA v 51 (17 * c + i) y) (i3 : 3 ≤ i ∧ i ≠ 4) : StJ E c x g row ctx v0 w := by
  obtain ⟨k1, n1, c1, r1, s1, q1⟩ := fr_set h.ct ew i3.1
  exact ⟨h.1.tr k1 (Int.le_refl _), h.2.1.keep (by rw [n1]; exact h.2.1.1) (fun j hj h3 => s1 j (by omega)) k1.2.2, by rw [n1]; exact h.2.2.1, (h.2.2.2.1.up h.ct k1.1).1, h.2.2.2.2.1.up h.ct k1.1, h.2.2.2.2.2⟩
section
variable {α : Type} {u0 v0 v : iST} {E : Sp.Env} {B x g row c t T : Int} {R : EStateM.Result Unit Sp.Wk α} {Q : Int → iST → Prop} {K : Ob → Sp.M α} {d : Nat} {ctx : List Ob}
/-- a term is asked within the frame -/
theorem fr_ask [DecidableEq Ob] {y g' row' k : Int} {ctx' : List Ob} {K' : Ob → Sp.M α} {L : iST → Prop} (hM : FmJ u0 E B R Q d c x g row v0 T K) (hS : StJ E c x g row ctx v0 v) (ny : NdC v E y) (cx : CxC v E row' ctx') (hg : g' = 0 ∨ g' = 1) (hK : ∀ a, Mono (K' a)) (hP : PdK B f8Jn f8Jr u0 v R (Sp.bd (Sp.rw E d ctx' (oc v y) (decide (g' = 1))) K')) (k0 : 0 ≤ k) (ht : t + T + k ≤ 24 * (v.1 31 - u0.1 31)) (hL : ∀ w, pv_6_rewritten_20 Q t w → L w)
    (hq : ∀ w b t', StJ E c x g row ctx v0 w → RjK (c + 1) v w → NdC w E b → w.1 24 = b → PdK B f8Jn f8Jr u0 w R (K' (oc w b)) → t' + T + k + 4 ≤ 24 * (w.1 31 - u0.1 31) → pv_6_rewritten_20 Q t' w) : pv_6_ask y g' row' L v := by
  obtain ⟨hC, ih, hO, hK0, c0, hd, hT0⟩ := hM
  refine ih ctx' y g' row' (c + 1) t (T + k + 4) v K' L hL hP hS.2.2.1 hK hS.2.1.1 (by omega) hd hg ny cx (by omega) (by omega) (by omega) hS.2.1.2.2.2.2.2.2.1 ?_
  intro w b t' kw nb w24 w23 w32 hPw ht' _
  exact hq w b t' (hS.keep kw w23 w32) kw nb w24 hPw (by omega)
theorem fr_fin [DecidableEq Ob] {a : Int} {L : iST → Prop} (hM : FmJ u0 E B R Q d c x g row v0 T K) (hk : RjK c v0 v) (hF : FrJ c x g row (v0.1 26) v) (na : NdD v E a) (hP : PdK B f8Jn f8Jr u0 v R (K (Sp.fin (decide (g = 1)) (oc v a)))) (ht : t + T ≤ 24 * (v.1 31 - u0.1 31)) (hL : ∀ w, pv_6_rewritten_20 Q t w → L w) : pv_6_finish a L v := pc_finish hM.1 hM.2.2.1 hL hk hF na hP ht
theorem fr_instead [DecidableEq Ob] {a : Int} {L : iST → Prop} (hM : FmJ u0 E B R Q d c x g row v0 T K) (hk : RjK c v0 v) (hF : FrJ c x g row (v0.1 26) v) (hg : g = 0 ∨ g = 1) (cx : CxC v E row ctx) (na : NdD v E a) (hP : PdK B f8Jn f8Jr u0 v R (Sp.bd (Sp.rw E d ctx (oc v a) (decide (g = 1))) (fun y => K (Sp.fin (decide (g = 1)) y)))) (ht : t + T ≤ 24 * (v.1 31 - u0.1 31)) (hL : ∀ w, pv_6_rewritten_20 Q t w → L w) : pv_6_askInstead c a L v := by
  obtain ⟨hC, ih, hO, hK0, c0, hd, hT0⟩ := hM
  exact pc_askInstead hC ih hO hL hK0 hk hF c0 hd hg cx na hP hT0 ht
theorem PdK.pays [DecidableEq Ob] {n : Nat} {w : iST} {m : Unit → Sp.M α} (h : PdK B f8Jn f8Jr u0 v R (Sp.bd (Sp.pay n) m)) (g : CG f8M f8R v w) (h29 : w.1 29 ≤ v.1 29 + (n : Int)) : PdK B f8Jn f8Jr u0 w R (m ()) := by
  refine ⟨h.1.tr (g.mono f8M_J f8R_J), ?_⟩
  have e32 : w.1 32 = v.1 32 := g.2.2.1 32 (by decide)
  rcases h.2 with ⟨s, hl, e⟩ | ⟨s, hl, e⟩
  · refine Or.inl ⟨(s.1, s.2 + n), ⟨by rw [e32]; exact hl.1, hl.2.1.cg g (by decide) (by decide) rfl, ?_⟩, e⟩
    have := hl.2.2
    show w.1 29 ≤ B + ((s.2 + n : Nat) : Int)
    omega
  · exact Or.inr ⟨s, ⟨by rw [e32]; exact hl.1, hl.2.cg g (by decide) (by decide) rfl⟩, e⟩
theorem PdK.payroom [DecidableEq Ob] {n : Nat} {m : Unit → Sp.M α} (h : PdK B f8Jn f8Jr u0 v R (Sp.bd (Sp.pay n) m)) (fit : Fit B R) (hm : Mono (m ())) (z : v.1 32 = 0) : v.1 29 + (n : Int) ≤ 160000 := by
  obtain ⟨s, hl, e⟩ := h.live z
  rw [e] at fit
  have h2 := hm (s.1, s.2 + n)
  have fit : B + (cntR (m () (s.1, s.2 + n)) : Int) ≤ 160000 := fit
  have h3 := hl.2.2
  have h2 : s.2 + n ≤ cntR (m () (s.1, s.2 + n)) := h2
  omega
theorem kn_c [DecidableEq Ob] {u : iST} (hT : CT u) (k : Int) {o : Ob} (h0 : 0 ≤ k) (h4 : k < 44) (ho : Ob.knownC[k.toNat]? = some o) : VN u k ∧ oc u k = o := by
  obtain ⟨a, b, e⟩ := knC hT k h0 h4 ho
  exact ⟨⟨a, b⟩, e⟩
/-- what an IF is when its terms came out -/
theorem pc_choice [DecidableEq Ob] {a b e : Int} {K' : Ob → Sp.M α} {Q' : Int → iST → Prop} (hP : PdK B f8Jn f8Jr u0 v R (Sp.bd (Sp.rwJoin (decide (g = 1)) (oc v a) (oc v b) (oc v e)) K')) (fit : Fit B R) (hK : ∀ a, Mono (K' a)) (na : NdC v E a) (nb : NdC v E b) (ne : NdC v E e)
    (hq : ∀ t w, CG f8B f8W v w → (v.1 32 ≠ 0 → w.1 32 ≠ 0) → NdD w E t → PdK B f8Jn f8Jr u0 w R (K' (oc w t)) → (t = -1 → w.1 32 ≠ 0) → Q' t w) : pv_6_choice a b e g Q' v := by
  have hT := hP.1.1
  have stay : ∀ t, NdC v E t → PdK B f8Jn f8Jr u0 v R (K' (oc v t)) → Q' t v := fun t nt hp => hq t v (CG.rf hT) id nt.d hp (fun z => by have := nt.1.1; omega)
  have i1 : b = e ↔ oc v b = oc v e := (hT.1.inj nb.1.1 nb.1.2 ne.1.1 ne.1.2).symm
  have kb1 := katC hT 1 (o := Ob.t) (by decide) (by decide) rfl nb.1.1 nb.1.2
  have kb0 := katC hT 0 (o := Ob.nil) (by decide) (by decide) rfl nb.1.1 nb.1.2
  have ke1 := katC hT 1 (o := Ob.t) (by decide) (by decide) rfl ne.1.1 ne.1.2
  have ke0 := katC hT 0 (o := Ob.nil) (by decide) (by decide) rfl ne.1.1 ne.1.2
  unfold Sp.rwJoin at hP
  unfold pv_6_choice
  refine ⟨fun hne => ?_, fun he => ?_⟩
  rotate_left
  · rw [if_pos (i1.mp (Decidable.not_not.mp he))] at hP
    exact stay b nb hP
  rw [if_neg (fun z => hne (i1.mpr z))] at hP
  have c35 : ¬ (oc v b = Ob.t ∧ oc v e = Ob.nil ∧ (decide (g = 1) = true ∨ (oc v a).isBool = true)) → pv_6_choice_35 Q' a b e v := by
    intro h
    rw [if_neg h] at hP
    have c57 : ¬ (oc v b = Ob.nil ∧ oc v e = Ob.t) → pv_6_choice_57 Q' a b e v := by
      intro h2
      rw [if_neg h2] at hP
      unfold pv_6_choice_57
      exact pc_mk3 hP f8B_J f8W_J fit hK (kn_c hT 3 (o := Ob.ifS) (by decide) (by decide) rfl) (Ob.sym_isSym _) (Ob.sym_ne (by decide)) (arOf_ifS E) na.d nb.d ne.d hq
    unfold pv_6_choice_35
    refine ⟨fun z => c57 (fun q => z (kb0.mpr q.1)), fun z => ⟨fun z2 => c57 (fun q => z2 (ke1.mpr q.2)), fun z2 => ?_⟩⟩
    rw [if_pos ⟨kb0.mp (Decidable.not_not.mp z), ke1.mp (Decidable.not_not.mp z2)⟩] at hP
    exact pc_mk1 hP f8B_J f8W_J fit hK (kn_c hT 16 (o := Ob.not) (by decide) (by decide) rfl) (Ob.sym_isSym _) (Ob.sym_ne (by decide)) (arOf_not E) na.d hq
  refine ⟨fun z => c35 (fun q => z (kb1.mpr q.1)), fun z => ⟨fun z2 => c35 (fun q => z2 (ke0.mpr q.2.1)), fun z2 => ?_⟩⟩
  have y1 := kb1.mp (Decidable.not_not.mp z)
  have y2 := ke0.mp (Decidable.not_not.mp z2)
  refine ⟨fun zg => ?_, fun zg => ?_⟩
  · rw [if_pos ⟨y1, y2, Or.inl (decide_eq_true zg)⟩] at hP
    exact stay a na hP
  · refine pc_isBoolean hT na.1 (fun r hr => ⟨fun z3 => c35 (fun q => ?_), fun z3 => ?_⟩)
    · rcases q.2.2 with q | q
      · exact zg (of_decide_eq_true q)
      · have := hr.f z3
        rw [q] at this; cases this
    · rw [if_pos ⟨y1, y2, Or.inr (hr.t z3)⟩] at hP
      exact stay a na hP
theorem st_else [DecidableEq Ob] {a b e : Int} (hM : FmJ u0 E B R Q d c x g row v0 T K) (hS : StJ E c x g row ctx v0 v) (hs : v.2.1 51 (17 * c + 3) = 4) (h5 : v.2.1 51 (17 * c + 5) = a) (h7 : v.2.1 51 (17 * c + 7) = b) (h24 : v.1 24 = e) (na : NdC v E a) (nb : NdC v E b) (ne : NdC v E e) (hP : PdK B f8Jn f8Jr u0 v R (Sp.bd (Sp.rwJoin (decide (g = 1)) (oc v a) (oc v b) (oc v e)) (fun y => K (Sp.fin (decide (g = 1)) y)))) (ht : t + T + 1 ≤ 24 * (v.1 31 - u0.1 31)) : pv_6_rewritten_20 Q t v := by
  have hC := hM.1
  have T0 := hM.2.2.2.2.2.2
  refine hd_4 hS.2.1.1 hM.2.2.2.2.1 hS.2.2.1 (hC.turn hP hS.2.2.1 (by omega)) hs ?_
  rw [h5, h7, h24, hS.2.1.2.2.1]
  refine pc_choice hP hC.2.2.1 (nf_mono hM.2.2.2.1 _) na nb ne (fun o w gw wd nt hPw _ => ?_)
  have kw : RjK (c + 1) v w := RjK.of gw f8B_J f8W_J (by decide)
  have w31 : w.1 31 = v.1 31 := gw.2.2.1 31 (by decide)
  exact fr_fin (t := t + 1) hM (hS.1.tr kw (by omega)) (hS.2.1.keep (by rw [gw.2.2.1 23 (by decide)]; exact hS.2.1.1) (fun j hj _ => kw.2.1 j (by omega)) kw.2.2) nt hPw (by rw [w31]; omega) (fun w h _ => h)
end
