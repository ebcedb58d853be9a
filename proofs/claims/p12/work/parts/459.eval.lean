-- deps: 458 4305
/-! the reference, partial: evaluation -/
def f7E (k : Nat) : Bool := decide (k ≤ 11) || decide (k = 60) || decide (79 ≤ k ∧ k ≤ 91)
/-- frames below c, values below b are as they were -/
def EvF [DecidableEq Ob] (c b : Int) (v w : iST) : Prop := GZ f7E v w ∧ (∀ j i, 79 ≤ j → j ≤ 84 → i < c → w.2.1 j i = v.2.1 j i) ∧ ∀ i, i < b → w.2.1 86 i = v.2.1 86 i
theorem EvF.tr [DecidableEq Ob] {c b c' b' : Int} {u v w : iST} (h : EvF c b u v) (g : EvF c' b' v w) (hc : c ≤ c') (hb : b ≤ b') : EvF c b u w :=
  ⟨h.1.tr g.1, fun j i j0 j1 hi => (g.2.1 j i j0 j1 (by omega)).trans (h.2.1 j i j0 j1 hi), fun i hi => (g.2.2 i (by omega)).trans (h.2.2 i hi)⟩
theorem EvF.mono [DecidableEq Ob] {c b c' b' : Int} {u v : iST} (h : EvF c b u v) (hc : c' ≤ c) (hb : b' ≤ b) : EvF c' b' u v :=
  ⟨h.1, fun j i j0 j1 hi => h.2.1 j i j0 j1 (by omega), fun i hi => h.2.2 i (by omega)⟩
theorem EvF.rf [DecidableEq Ob] {u : iST} (hT : TI u) (hU : TU u) (c b : Int) : EvF c b u u := ⟨GZ.rf hT hU, fun _ _ _ _ _ => rfl, fun _ _ => rfl⟩
/-- STEPS left, and its own -/
def EvL [DecidableEq Ob] (lim : Int) (w : iST) (s : Sp.Ek) : Prop := w.1 60 + (s.1 : Int) = w.1 59 ∧ (lim ≠ 0 → w.1 88 = (s.2.1 : Int)) ∧ (lim = 0 → s.1 < s.2.1)
/-- what the variables of a term are -/
def EvV [DecidableEq Ob] (w : iST) (D B : Int) (env : Ob → Ob) (o : Ob) : Prop := ∀ x, x ∈ Ob.parts o → Ob.isVar x = true → ∃ k : Nat, (0 ≤ w.2.1 38 (6 * D + (k : Int)) ∧ w.2.1 38 (6 * D + (k : Int)) < w.1 8 ∧ ob w (w.2.1 38 (6 * D + (k : Int))) = x) ∧ (∀ j : Nat, j < k → 0 ≤ w.2.1 38 (6 * D + (j : Int)) ∧ w.2.1 38 (6 * D + (j : Int)) < w.1 8 ∧ ob w (w.2.1 38 (6 * D + (j : Int))) ≠ x) ∧ 0 ≤ w.2.1 86 (B + (k : Int)) ∧ w.2.1 86 (B + (k : Int)) < w.1 8 ∧ B + (k : Int) < w.1 87 ∧ env x = ob w (w.2.1 86 (B + (k : Int)))
theorem EvV.mono [DecidableEq Ob] {v w : iST} {D B : Int} {env : Ob → Ob} {o : Ob} (h : EvV v D B env o) (hT : TI v) {c : Int} (hE : EvF c (v.1 87) v w) (h87 : v.1 87 ≤ w.1 87) : EvV w D B env o := by
  have e38 : w.2.1 38 = v.2.1 38 := (hE.1.2.2.2.2 38 (by decide)).2
  have hl := hE.1.le
  intro x hx hv
  obtain ⟨k, ⟨a1, a2, a3⟩, b, c1, c2, c3, c4⟩ := h x hx hv
  have e86 := hE.2.2 (B + (k : Int)) c3
  refine ⟨k, ⟨by rw [e38]; exact a1, by rw [e38]; omega, by rw [e38, hE.1.ob hT a1 a2]; exact a3⟩, fun j hj => ?_, by rw [e86]; exact c1, by rw [e86]; omega, by omega, by rw [e86, hE.1.ob hT c1 c2]; exact c4⟩
  obtain ⟨p, q, r⟩ := b j hj
  rw [e38]
  exact ⟨p, by omega, by rw [hE.1.ob hT p q]; exact r⟩
theorem EvV.sub [DecidableEq Ob] {w : iST} {D B : Int} {env : Ob → Ob} {f : Ob} {l : List Ob} (h : EvV w D B env (.pr f (Ob.ofList l))) (hq : f ≠ Ob.quote) {x : Ob} (hx : x ∈ l) : EvV w D B env x :=
  fun y hy hv => h y (parts_call hq hx hy) hv
/-- values from a place on -/
def vl [DecidableEq Ob] (u : iST) (lo : Int) (n : Nat) : List Ob := (List.range n).map (fun i : Nat => ob u (u.2.1 86 (lo + (i : Int))))
theorem vl_cons [DecidableEq Ob] (u : iST) (lo : Int) (n : Nat) : vl u lo (n + 1) = ob u (u.2.1 86 lo) :: vl u (lo + 1) n := by
  unfold vl
  rw [List.range_succ_eq_map, List.map_cons, List.map_map]
  refine congr (congrArg List.cons ?_) (List.map_congr_left (fun i _ => ?_))
  · rw [show lo + ((0 : Nat) : Int) = lo by omega]
  · show ob u (u.2.1 86 (lo + ((i + 1 : Nat) : Int))) = ob u (u.2.1 86 (lo + 1 + (i : Int)))
    rw [show lo + ((i + 1 : Nat) : Int) = lo + 1 + (i : Int) by omega]
theorem vl_get [DecidableEq Ob] (u : iST) (lo : Int) (n : Nat) {k : Nat} (hk : k < n) : (vl u lo n)[k]? = some (ob u (u.2.1 86 (lo + (k : Int)))) := by
  unfold vl
  rw [List.getElem?_map, List.getElem?_range hk]
  rfl
theorem vl_len [DecidableEq Ob] (u : iST) (lo : Int) (n : Nat) : (vl u lo n).length = n := by unfold vl; simp
/-- values that stand from a place on -/
def EvS [DecidableEq Ob] (u : iST) (lo : Int) (n : Nat) : Prop := ∀ i, lo ≤ i → i < lo + (n : Int) → 0 ≤ u.2.1 86 i ∧ u.2.1 86 i < u.1 8
/-- a frame: term, rest, values from, definition, values of its variables, ends -/
def EvR [DecidableEq Ob] (w : iST) (c k b D B e : Int) : Prop := w.2.1 79 c = k ∧ w.2.1 81 c = b ∧ w.2.1 82 c = D ∧ w.2.1 83 c = B ∧ w.2.1 84 c = e
theorem EvR.keep [DecidableEq Ob] {v w : iST} {c b' c0 k b D B e : Int} (h : EvR v c k b D B e) (hE : EvF c0 b' v w) (hc : c < c0) : EvR w c k b D B e := by
  obtain ⟨h1, h2, h3, h4, h5⟩ := h
  exact ⟨(hE.2.1 79 c (by decide) (by decide) hc).trans h1, (hE.2.1 81 c (by decide) (by decide) hc).trans h2, (hE.2.1 82 c (by decide) (by decide) hc).trans h3, (hE.2.1 83 c (by decide) (by decide) hc).trans h4, (hE.2.1 84 c (by decide) (by decide) hc).trans h5⟩
/-- a state that has only its own numbers changed -/
theorem EvF_num [DecidableEq Ob] {v w : iST} (hT : TI v) (hU : TU v) (h2 : w.2 = v.2) (h1 : ∀ k, f7E k = false → w.1 k = v.1 k) (h11 : ∀ k, k ≤ 11 → w.1 k = v.1 k) (c b : Int) : EvF c b v w :=
  ⟨GZ_eq (GZ.rf hT hU) (fun k hk => ⟨h11 k hk, by rw [h2]⟩) (by rw [h2]) (fun k hk => ⟨h1 k hk, by rw [h2]⟩), fun j i _ _ _ => by rw [h2], fun i _ => by rw [h2]⟩
theorem EvF_I [DecidableEq Ob] {v : iST} (hT : TI v) (hU : TU v) {n : Nat} {x : Int} (hn : f7E n = true) (h11 : 11 < n) (c b : Int) : EvF c b v (iI v n x) :=
  EvF_num (w := iI v n x) hT hU rfl (fun k hk => if_neg (fun e => by rw [e, hn] at hk; cases hk)) (fun k hk => if_neg (by omega)) c b
theorem EvF_A [DecidableEq Ob] {v : iST} (hT : TI v) (hU : TU v) {n : Nat} {i x : Int} (hn : f7E n = true) (h11 : 11 < n) {c b : Int} (hc : n ≠ 86 → c ≤ i) (hb : n = 86 → b ≤ i) : EvF c b v (iA v n i x) := by
  refine ⟨GZ_eq (GZ.rf hT hU) (fun k hk => ⟨rfl, if_neg (by omega)⟩) rfl (Fx_A hn), fun j i' j0 j1 hi => ?_, fun i' hi => ?_⟩
  · show (if j = n then (fun x' => if x' = i then x else v.2.1 n x') else v.2.1 j) i' = v.2.1 j i'
    by_cases e : j = n
    · rw [if_pos e]
      subst e
      show (if i' = i then x else v.2.1 j i') = _
      rw [if_neg (by have := hc (by omega); omega)]
    · rw [if_neg e]
  · show (if 86 = n then (fun x' => if x' = i then x else v.2.1 n x') else v.2.1 86) i' = v.2.1 86 i'
    by_cases e : 86 = n
    · rw [if_pos e]
      subst e
      show (if i' = i then x else v.2.1 86 i') = _
      rw [if_neg (by have := hb rfl; omega)]
    · rw [if_neg e]
/-- an evaluation at this depth goes through -/
def EvG [DecidableEq Ob] (u0 : iST) (E : Sp.Env) (lim : Int) (Q : Int → iST → Prop) (d : Nat) : Prop := ∀ (env : Ob → Ob) (o : Ob) (v : iST) (s : Sp.Ek) (k D B : Int), GZ f7E u0 v → v.1 85 + (d : Int) = 300 → 0 ≤ v.1 85 → 0 ≤ v.1 87 → EvL lim v s → v.1 89 = 0 → 0 ≤ k → k < v.1 8 → ob v k = o → Tm v o → Ob.wt (Sp.arOf E) o → EvV v D B env o →
  (∀ r s' w, Sp.ev E d env o s = .ok (ob w r) s' → EvF (v.1 85) (v.1 87) v w → w.1 85 = v.1 85 → w.1 87 = v.1 87 → EvL lim w s' → w.1 89 = 0 → w.1 90 = 1 → w.1 91 = r → 0 ≤ r → r < w.1 8 → pw_evaluated_29 Q lim w) →
  (∀ c s' w, Sp.ev E d env o s = .error c s' → GZ f7E u0 w → c ≠ 0 → w.1 89 = c → w.1 60 + (s'.1 : Int) = w.1 59 → pw_evaluated_29 Q lim w) →
  pw_beginEval k D B lim (fun w => pw_evaluated_29 Q lim w) v
/-- a value came at a frame that ends -/
theorem ev_pop [DecidableEq Ob] {lim : Int} {Q : Int → iST → Prop} {v w : iST} {c k b D B : Int} (hT : TI w) (hU : TU w) (h85 : w.1 85 = c + 1) (h0 : 0 ≤ c) (hF : EvR w c k b D B 1) (h89 : w.1 89 = 0) (h90 : w.1 90 = 1)
    (hq : ∀ z, EvF c (w.1 87) w z → z.1 85 = c → z.1 87 = b → z.1 89 = 0 → z.1 90 = 1 → z.1 91 = w.1 91 → z.1 60 = w.1 60 → z.1 88 = w.1 88 → pw_evaluated_29 Q lim z) : pw_evaluated_29 Q lim w := by
  obtain ⟨f1, f2, f3, f4, f5⟩ := hF
  refine fo_w_evaluated_29 ?_
  unfold pw_evaluated_29b
  intro x ex _
  subst ex
  refine ⟨fun z => absurd h89 z, fun _ => ?_⟩
  intro x ex _
  subst ex
  refine ⟨fun z => by omega, fun _ => ?_⟩
  intro x ex _
  subst ex
  refine ⟨fun z => by omega, fun _ => ?_⟩
  unfold pw_evaluated_50
  intro x ex _
  subst ex
  refine ⟨fun z => by omega, fun _ => ?_⟩
  unfold pw_takeValue
  intro x ex _ _ _ _ y ey _
  subst ex ey
  have e1 : w.1 85 - 1 = c := by omega
  rw [e1]
  refine ⟨fun z => by omega, fun _ => ?_⟩
  intro x ex _ _ z1 ez1 _ _ y ey _ z ez
  subst ex
  rw [e1] at ez1
  have g1 : EvF c (w.1 87) w z1 := by subst ez1; exact EvF_I hT hU (by decide) (by decide) _ _
  have y81 : y = b := by rw [ey, ez1]; exact f2
  have g2 : EvF c (w.1 87) z1 z := by subst ez; exact EvF_I g1.1.1 g1.1.2.1 (by decide) (by decide) _ _
  refine hq z (g1.tr g2 (Int.le_refl _) (Int.le_refl _)) ?_ ?_ ?_ ?_ ?_ ?_ ?_
  · rw [ez, ez1]; rfl
  · rw [ez, y81]; rfl
  · rw [ez, ez1]; exact h89
  · rw [ez, ez1]; exact h90
  · rw [ez, ez1]; rfl
  · rw [ez, ez1]; rfl
  · rw [ez, ez1]; rfl
