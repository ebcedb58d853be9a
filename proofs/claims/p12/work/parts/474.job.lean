-- deps: 473
/-! the reference, partial: rewriting. Theorems; jobs -/
def f7J (k : Nat) : Bool := decide (k ≤ 11) || decide (15 ≤ k ∧ k ≤ 22) || decide (60 ≤ k ∧ k ≤ 61) || decide (64 ≤ k ∧ k ≤ 74) || decide (79 ≤ k ∧ k ≤ 113)
theorem f7M_J [DecidableEq Ob] : ∀ k, f7J k = false → f7M k = false := by
  intro k h
  unfold f7J at h
  unfold f7M fI
  simp only [Bool.or_eq_false_iff, decide_eq_false_iff_not] at h ⊢
  omega
theorem f7E_J [DecidableEq Ob] : ∀ k, f7J k = false → f7E k = false := by
  intro k h
  unfold f7J at h
  unfold f7E
  simp only [Bool.or_eq_false_iff, decide_eq_false_iff_not] at h ⊢
  omega
theorem f7X_J [DecidableEq Ob] : ∀ k, f7J k = false → f7X k = false := by
  intro k h
  unfold f7J at h
  unfold f7X
  simp only [Bool.or_eq_false_iff, decide_eq_false_iff_not] at h ⊢
  omega
theorem f7P_J [DecidableEq Ob] : ∀ k, f7J k = false → f7P k = false := by
  intro k h
  unfold f7J at h
  unfold f7P
  simp only [Bool.or_eq_false_iff, decide_eq_false_iff_not] at h ⊢
  omega
theorem f7S_J [DecidableEq Ob] : ∀ k, f7J k = false → f7S k = false := by
  intro k h
  unfold f7J at h
  unfold f7S f7T f7L
  simp only [Bool.or_eq_false_iff, decide_eq_false_iff_not] at h ⊢
  omega
/-- what work within job j leaves: jobs, results, contexts below -/
def RK [DecidableEq Ob] (j r c : Int) (v w : iST) : Prop := GZ f7J v w ∧ w.1 71 = v.1 71 ∧ (∀ n i, 92 ≤ n → n ≤ 101 → i < j → w.2.1 n i = v.2.1 n i) ∧ (∀ i, i < r → w.2.1 103 i = v.2.1 103 i) ∧ (∀ i, i < 130 * j → w.2.1 105 i = v.2.1 105 i ∧ w.2.1 106 i = v.2.1 106 i) ∧ (∀ i, i < j → w.2.1 107 i = v.2.1 107 i) ∧ ∀ i, i < c → w.2.1 108 i = v.2.1 108 i
theorem RK.tr [DecidableEq Ob] {j r c j' r' c' : Int} {u v w : iST} (h : RK j r c u v) (g : RK j' r' c' v w) (hj : j ≤ j') (hr : r ≤ r') (hc : c ≤ c') : RK j r c u w := by
  obtain ⟨a1, a2, a3, a4, a5, a6, a7⟩ := h
  obtain ⟨b1, b2, b3, b4, b5, b6, b7⟩ := g
  exact ⟨a1.tr b1, b2.trans a2, fun n i n0 n1 hi => (b3 n i n0 n1 (by omega)).trans (a3 n i n0 n1 hi), fun i hi => (b4 i (by omega)).trans (a4 i hi), fun i hi => ⟨(b5 i (by omega)).1.trans (a5 i hi).1, (b5 i (by omega)).2.trans (a5 i hi).2⟩, fun i hi => (b6 i (by omega)).trans (a6 i hi), fun i hi => (b7 i (by omega)).trans (a7 i hi)⟩
theorem RK.mono [DecidableEq Ob] {j r c j' r' c' : Int} {v w : iST} (h : RK j r c v w) (hj : j' ≤ j) (hr : r' ≤ r) (hc : c' ≤ c) : RK j' r' c' v w := by
  obtain ⟨a1, a2, a3, a4, a5, a6, a7⟩ := h
  exact ⟨a1, a2, fun n i n0 n1 hi => a3 n i n0 n1 (by omega), fun i hi => a4 i (by omega), fun i hi => a5 i (by omega), fun i hi => a6 i (by omega), fun i hi => a7 i (by omega)⟩
theorem RK.rf [DecidableEq Ob] {v : iST} (hT : TI v) (hU : TU v) (j r c : Int) : RK j r c v v := ⟨GZ.rf hT hU, rfl, fun _ _ _ _ _ => rfl, fun _ _ => rfl, fun _ _ => ⟨rfl, rfl⟩, fun _ _ => rfl, fun _ _ => rfl⟩
/-- work that leaves 92 to 109 alone -/
theorem RK_of [DecidableEq Ob] {n : Nat → Bool} {v w : iST} (hG : GZ n v w) (hn : ∀ k, f7J k = false → n k = false) (h71 : w.1 71 = v.1 71) (h92 : ∀ k, 92 ≤ k → k ≤ 108 → n k = false) (j r c : Int) : RK j r c v w :=
  ⟨hG.mono hn, h71, fun k i k0 k1 _ => congrFun (hG.2.2.2.2 k (h92 k k0 (by omega))).2 i, fun i _ => congrFun (hG.2.2.2.2 103 (h92 103 (by decide) (by decide))).2 i, fun i _ => ⟨congrFun (hG.2.2.2.2 105 (h92 105 (by decide) (by decide))).2 i, congrFun (hG.2.2.2.2 106 (h92 106 (by decide) (by decide))).2 i⟩, fun i _ => congrFun (hG.2.2.2.2 107 (h92 107 (by decide) (by decide))).2 i, fun i _ => congrFun (hG.2.2.2.2 108 (h92 108 (by decide) (by decide))).2 i⟩
theorem f7M_92 [DecidableEq Ob] : ∀ k, 92 ≤ k → k ≤ 113 → f7M k = false := by
  intro k h1 h2
  unfold f7M fI
  simp only [Bool.or_eq_false_iff, decide_eq_false_iff_not]
  omega
theorem GM.rk [DecidableEq Ob] {v w : iST} (h : GM v w) (j r c : Int) : RK j r c v w := RK_of h.1 f7M_J h.2.1 (fun k k0 k1 => f7M_92 k k0 (by omega)) j r c
theorem RK_I [DecidableEq Ob] {v : iST} (hT : TI v) (hU : TU v) {n : Nat} {x : Int} (hn : f7J n = true) (h11 : 11 < n) (h71 : n ≠ 71) (j r c : Int) : RK j r c v (iI v n x) :=
  ⟨GZ_eq (GZ.rf hT hU) (fun k hk => ⟨if_neg (by omega), rfl⟩) rfl (Fx_I hn), if_neg (fun e => h71 e.symm), fun _ _ _ _ _ => rfl, fun _ _ => rfl, fun _ _ => ⟨rfl, rfl⟩, fun _ _ => rfl, fun _ _ => rfl⟩
theorem iA_row [DecidableEq Ob] (v : iST) (n m : Nat) (i x a : Int) : (iA v n i x).2.1 m a = if m = n ∧ a = i then x else v.2.1 m a := by
  show (if m = n then (fun x' => if x' = i then x else v.2.1 n x') else v.2.1 m) a = _
  by_cases e : m = n
  · subst e
    rw [if_pos rfl]
    show (if a = i then x else v.2.1 m a) = _
    by_cases e2 : a = i
    · rw [if_pos e2, if_pos ⟨rfl, e2⟩]
    · rw [if_neg e2, if_neg (fun z => e2 z.2)]
  · rw [if_neg e, if_neg (fun z => e z.1)]
theorem RK_A [DecidableEq Ob] {v : iST} (hT : TI v) (hU : TU v) {n : Nat} {i x : Int} (hn : f7J n = true) (h11 : 11 < n) {j r c : Int} (h1 : 92 ≤ n → n ≤ 101 → j ≤ i) (h2 : n = 103 → r ≤ i) (h3 : n = 105 ∨ n = 106 → 130 * j ≤ i) (h4 : n = 107 → j ≤ i) (h5 : n = 108 → c ≤ i) : RK j r c v (iA v n i x) := by
  refine ⟨GZ_eq (GZ.rf hT hU) (fun k hk => ⟨rfl, if_neg (by omega)⟩) rfl (Fx_A hn), rfl, fun m a m0 m1 ha => ?_, fun a ha => ?_, fun a ha => ⟨?_, ?_⟩, fun a ha => ?_, fun a ha => ?_⟩
  · rw [iA_row, if_neg]; rintro ⟨rfl, rfl⟩; have := h1 m0 m1; omega
  · rw [iA_row, if_neg]; rintro ⟨e, rfl⟩; have := h2 e.symm; omega
  · rw [iA_row, if_neg]; rintro ⟨e, rfl⟩; have := h3 (Or.inl e.symm); omega
  · rw [iA_row, if_neg]; rintro ⟨e, rfl⟩; have := h3 (Or.inr e.symm); omega
  · rw [iA_row, if_neg]; rintro ⟨e, rfl⟩; have := h4 e.symm; omega
  · rw [iA_row, if_neg]; rintro ⟨e, rfl⟩; have := h5 e.symm; omega
/-- what is assumed stays -/
theorem CxOk.keep [DecidableEq Ob] {v w : iST} {E : Sp.Env} {j r : Int} (h : CxOk v E) (hT : TI v) (hK : RK j r (v.1 109) v w) (h109 : w.1 109 = v.1 109) : CxOk w E ∧ cxL w = cxL v := by
  have e108 := hK.2.2.2.2.2.2
  constructor
  · refine ⟨by rw [h109]; exact h.1, fun i i0 i1 => ?_⟩
    rw [h109] at i1
    rw [e108 i i1]
    exact ((h.2 i i0 i1).mono hT hK.1).1
  · unfold cxL
    rw [h109]
    refine List.map_congr_left (fun i hi => ?_)
    have hi := List.mem_range.mp hi
    rw [e108 _ (by omega), ((h.2 (i : Int) (by omega) (by omega)).mono hT hK.1).2]
/-- STEPS left -/
def StL [DecidableEq Ob] (w : iST) (s : Sp.Wk) : Prop := w.1 60 + (s.1 : Int) = w.1 59
/-- a job: its term, truth, phase -/
def JbR [DecidableEq Ob] (w : iST) (j k tr ph : Int) : Prop := w.2.1 92 j = k ∧ w.2.1 93 j = tr ∧ w.2.1 94 j = ph
theorem JbR.keep [DecidableEq Ob] {v w : iST} {j j' r c k tr ph : Int} (h : JbR v j k tr ph) (hK : RK j' r c v w) (hj : j < j') : JbR w j k tr ph :=
  ⟨(hK.2.2.1 92 j (by decide) (by decide) hj).trans h.1, (hK.2.2.1 93 j (by decide) (by decide) hj).trans h.2.1, (hK.2.2.1 94 j (by decide) (by decide) hj).trans h.2.2⟩
/-- rewriting at this depth goes through -/
def RwG [DecidableEq Ob] (u0 : iST) (E : Sp.Env) (Q : Int → iST → Prop) (d : Nat) : Prop := ∀ (v : iST) (s : Sp.Wk) (k tr : Int), GZ f7J u0 v → v.1 102 + (d : Int) = 60 → 0 ≤ v.1 102 → 0 ≤ v.1 104 → 0 ≤ v.1 71 → v.1 64 = 0 → StL v s → v.1 61 = 0 → Nd v E k → CxOk v E →
  (∀ w s' r, Sp.rw E d (cxL v) (ob v k) (decide (tr ≠ 0)) s = .ok (ob w r) s' → RK (v.1 102) (v.1 104) (v.1 109) v w → w.1 102 = v.1 102 → w.1 104 = v.1 104 → w.1 109 = v.1 109 → w.1 64 = 0 → StL w s' → w.1 61 = 0 → w.1 110 = r → w.1 111 = 1 → Nd w E r → pw_rewritten_21 Q w) →
  (∀ w s', Sp.rw E d (cxL v) (ob v k) (decide (tr ≠ 0)) s = .error () s' → GZ f7J u0 w → StL w s' → w.1 64 = 0 → w.1 61 ≠ 0 → pw_rewritten_21 Q w) →
  pw_beginJob k tr (fun w => pw_rewritten_21 Q w) v
/-- what a job owes: R is what the specification says of it -/
def Owe [DecidableEq Ob] (u0 : iST) (E : Sp.Env) (Q : Int → iST → Prop) (v0 : iST) (R : EStateM.Result Unit Sp.Wk Ob) : Prop :=
  (∀ w s' r, R = .ok (ob w r) s' → RK (v0.1 102) (v0.1 104) (v0.1 109) v0 w → w.1 102 = v0.1 102 → w.1 104 = v0.1 104 → w.1 109 = v0.1 109 → w.1 64 = 0 → StL w s' → w.1 61 = 0 → w.1 110 = r → w.1 111 = 1 → Nd w E r → pw_rewritten_21 Q w) ∧
  (∀ w s', R = .error () s' → GZ f7J u0 w → StL w s' → w.1 64 = 0 → w.1 61 ≠ 0 → pw_rewritten_21 Q w)
/-- within a job -/
def InJ [DecidableEq Ob] (u0 : iST) (E : Sp.Env) (v0 v : iST) (tr : Int) (s : Sp.Wk) : Prop := GZ f7J u0 v0 ∧ RK (v0.1 102) (v0.1 104) (v0.1 109) v0 v ∧ v.1 102 = v0.1 102 + 1 ∧ v.1 64 = 0 ∧ StL v s ∧ v.2.1 93 (v0.1 102) = tr ∧ CxOk v0 E ∧ 0 ≤ v0.1 102 ∧ 0 ≤ v0.1 104 ∧ 0 ≤ v0.1 71
theorem fin_fin [DecidableEq Ob] (tr : Bool) (o : Ob) : Sp.fin tr (Sp.fin tr o) = Sp.fin tr o := by
  by_cases h : (tr && decide (o ≠ Ob.nil) && Ob.isConst o) = true
  · have e0 : Sp.fin tr o = Ob.t := if_pos h
    rw [e0]
    have e : Ob.isConst Ob.t = true := by show (Ob.isNat Ob.t || decide (Ob.t = Ob.nil) || decide (Ob.t = Ob.t)) = true; simp
    have e2 : Ob.t ≠ Ob.nil := Ob.sym_ne (by decide)
    simp only [Bool.and_eq_true, decide_eq_true_eq] at h
    unfold Sp.fin
    rw [if_pos (by simp only [Bool.and_eq_true, decide_eq_true_eq]; exact ⟨⟨h.1.1, e2⟩, e⟩)]
  · have e0 : Sp.fin tr o = o := if_neg h
    rw [e0, e0]
/-- a job ends with this term -/
theorem rw_end [DecidableEq Ob] {u0 : iST} {E : Sp.Env} {Q : Int → iST → Prop} {v0 v : iST} {R : EStateM.Result Unit Sp.Wk Ob} {tr : Int} {s : Sp.Wk} (hO : Owe u0 E Q v0 R) (hI : InJ u0 E v0 v tr s) (h104 : v.1 104 = v0.1 104) (h109 : v.1 109 = v0.1 109) {x : Int} (hx : Nd v E x)
    (h61 : v.1 61 = 0 → R = .ok (Sp.fin (decide (tr ≠ 0)) (ob v x)) s) (hb : v.1 61 ≠ 0 → R = .error () s) : pw_end0 x (fun w => pw_rewritten_21 Q w) v := by
  obtain ⟨g0, hK, h102, h64, hS, htr, hC, j0, r0, b0⟩ := hI
  have hT := hK.1.1
  have hU := hK.1.2.1
  have z0 := kat hT hU 0 (by decide) (by decide) rfl hx.1 hx.2.1
  have fin : ∀ y w, RK (v0.1 102) (v0.1 104) (v0.1 109) v w → (∀ k, k ≠ 102 → w.1 k = v.1 k) → w.1 102 = v0.1 102 → Nd w E y → ob w y = Sp.fin (decide (tr ≠ 0)) (ob v x) → pw_end0_40 (fun w => pw_rewritten_21 Q w) y w := by
    intro y w kw hk hw ny ey
    unfold pw_end0_40
    intro w2 e2 _ w3 e3
    have k2 : RK (v0.1 102) (v0.1 104) (v0.1 109) w w2 := by rw [e2]; exact RK_I kw.1.1 kw.1.2.1 (by decide) (by decide) (by decide) _ _ _
    have k3 : RK (v0.1 102) (v0.1 104) (v0.1 109) w2 w3 := by rw [e3]; exact RK_I k2.1.1 k2.1.2.1 (by decide) (by decide) (by decide) _ _ _
    have n3 : ∀ k, k ≠ 102 → k ≠ 110 → k ≠ 111 → w3.1 k = v.1 k := fun k a b c => by rw [e3, e2]; exact (if_neg c).trans ((if_neg b).trans (hk k a))
    have m102 : w3.1 102 = v0.1 102 := by rw [e3, e2]; exact hw
    have m110 : w3.1 110 = y := by rw [e3, e2]; rfl
    have m111 : w3.1 111 = 1 := by rw [e3]; rfl
    clear e2 e3
    have kk := (kw.tr k2 (Int.le_refl _) (Int.le_refl _) (Int.le_refl _)).tr k3 (Int.le_refl _) (Int.le_refl _) (Int.le_refl _)
    have kv := hK.tr kk (Int.le_refl _) (Int.le_refl _) (Int.le_refl _)
    have S3 : StL w3 s := by unfold StL; rw [n3 60 (by decide) (by decide) (by decide), n3 59 (by decide) (by decide) (by decide)]; exact hS
    have ny3 := (ny.mono kw.1.1 (k2.1.tr k3.1))
    by_cases c : v.1 61 = 0
    · exact hO.1 w3 s y (by rw [h61 c, ny3.2, ey]) kv m102 (by rw [n3 104 (by decide) (by decide) (by decide)]; exact h104) (by rw [n3 109 (by decide) (by decide) (by decide)]; exact h109) (by rw [n3 64 (by decide) (by decide) (by decide)]; exact h64) S3 (by rw [n3 61 (by decide) (by decide) (by decide)]; exact c) m110 m111 ny3.1
    · exact hO.2 w3 s (hb c) (g0.tr kv.1) S3 (by rw [n3 64 (by decide) (by decide) (by decide)]; exact h64) (by rw [n3 61 (by decide) (by decide) (by decide)]; exact c)
  unfold pw_end0
  intro a ea _ _ w ew b eb _ _ _ c ec _
  subst ea
  have kw : RK (v0.1 102) (v0.1 104) (v0.1 109) v w := by rw [ew]; exact RK_I hT hU (by decide) (by decide) (by decide) _ _ _
  have hk : ∀ k, k ≠ 102 → w.1 k = v.1 k := fun k a => by rw [ew]; exact if_neg a
  have hw : w.1 102 = v0.1 102 := by rw [ew]; show v.1 102 - 1 = _; omega
  have hc : c = tr := by rw [ec, eb, hw, (show w.2.1 93 = v.2.1 93 by rw [ew]; rfl)]; exact htr
  clear ew ec eb
  rw [hc]
  obtain ⟨nx, ex⟩ := hx.mono hT kw.1
  refine ⟨fun hz => ?_, fun hz => ⟨fun hx0 => ?_, fun hx0 => ?_⟩⟩
  · unfold pw_end0_39
    refine fin x w kw hk hw nx ?_
    rw [ex]
    unfold Sp.fin
    rw [if_neg (by rw [decide_eq_false (not_not_intro hz)]; simp)]
  · unfold pw_end0_39
    refine fin x w kw hk hw nx ?_
    rw [ex]
    unfold Sp.fin
    rw [if_neg (by rw [decide_eq_false (not_not_intro (z0.mp hx0))]; simp)]
  · refine p_isConstant kw.1.1 kw.1.2.1 nx.1 nx.2.1 nx.2.2.1 (fun r hr => ?_)
    rw [ex] at hr
    refine ⟨fun hd => ?_, fun hd => ?_⟩
    · unfold pw_end0_39
      refine fin x w kw hk hw nx ?_
      rw [ex]
      unfold Sp.fin
      rw [if_neg (by rw [hr.f hd]; simp)]
    · have k1 := kn kw.1.1 kw.1.2.1 1 (by decide) (by decide) rfl
      refine fin 1 w kw hk hw ⟨k1.1, k1.2.1, Tm_leaf (by rw [k1.2.2]; rfl), Ob.wt_leaf (by rw [k1.2.2]; rfl)⟩ ?_
      unfold Sp.fin
      rw [if_pos (by rw [hr.t hd, decide_eq_true (show ob v x ≠ Ob.nil from fun z => hx0 (z0.mpr z)), decide_eq_true hz]; rfl), k1.2.2]
