-- deps: 444
/-! the reference, partial: what was made is forgotten; questions -/
theorem p_forget [DecidableEq Ob] {n : Int} {Q : iST → Prop} {u : iST} (hT : TI u) (hU : TU u) (n0 : 44 ≤ n) (n1 : n ≤ u.1 8) (hq : ∀ v, TI v → TU v → v.1 8 = n → Ext v u → (∀ g, g ≠ 7 → v.2.1 g = u.2.1 g) → v.2.2 = u.2.2 → (∀ k, k ≠ 6 → k ≠ 8 → k ≠ 11 → v.1 k = u.1 k) → Q v) : pw_forget n Q u := by
  refine wp_w_forget (fun _ h => h) (g_forget hT n0 n1 (fun v hV e8 hE hg hL hk => hq v hV ?_ e8 hE hg hL hk))
  have eo : ∀ k, 0 ≤ k → k < v.1 8 → ob u k = ob v k := fun k k0 k1 => hE.ob hV hT k0 k1
  have inj : ∀ j k, 0 ≤ j → j < v.1 8 → 0 ≤ k → k < v.1 8 → ob v j = ob v k → j = k := fun j k j0 j1 k0 k1 e => (hT.inj hU j0 (by omega) k0 (by omega)).mp (by rw [eo j j0 j1, eo k k0 k1, e])
  refine ⟨fun j k j0 j1 k0 k1 a b e => inj j k j0 j1 k0 k1 (by rw [ob_nat a, ob_nat b, e]), fun j k j0 j1 k0 k1 a b e => inj j k j0 j1 k0 k1 (by rw [ob_sym a, ob_sym b, e]), fun k k0 k1 => ?_, fun i hi => ?_, fun k k0 k1 hk => ?_⟩
  · have a := hU.2.2.1 k k0 (by omega)
    rw [eo k k0 k1] at a
    rw [hg 4 (by decide), hg 3 (by decide)]
    exact a
  · rw [← eo _ (by omega) (by omega)]; exact hU.2.2.2.1 i hi
  · have e : lts v (v.2.1 1 k) = lts u (u.2.1 1 k) := by unfold lts; rw [hg 9 (by decide), hg 10 (by decide), hg 1 (by decide)]
    rw [e]
    exact hU.2.2.2.2 k k0 (by omega) (by rw [← hg 0 (by decide)]; exact hk)
/-- an answer of true or false -/
def bq (r : Int) (b : Bool) : Prop := r = 0 ↔ b = false
theorem bq.f [DecidableEq Ob] {r : Int} {b : Bool} (h : bq r b) (e : r = 0) : b = false := h.mp e
theorem bq.t [DecidableEq Ob] {r : Int} {b : Bool} (h : bq r b) (e : ¬ r = 0) : b = true := by cases b with | true => rfl | false => exact absurd (h.mpr rfl) e
theorem bq_of [DecidableEq Ob] {r : Int} {b : Bool} (h : r ≠ 0 ↔ b = true) : bq r b := by
  cases b with
  | true => exact ⟨fun e => absurd e (h.mpr rfl), fun e => by cases e⟩
  | false => exact ⟨fun _ => rfl, fun _ => Classical.byContradiction (fun z => by cases h.mp z)⟩
theorem TU.at [DecidableEq Ob] {u : iST} (hT : TI u) (hU : TU u) {i : Nat} {o : Ob} (hi : i < 44) (ho : Ob.known[i]? = some o) {k : Int} (k0 : 0 ≤ k) (k1 : k < u.1 8) : k = (i : Int) ↔ ob u k = o := by
  have h8 := hT.1
  have e : ob u (i : Int) = o := Option.some.inj ((hU.2.2.2.1 i hi).trans ho)
  rw [← hT.inj hU k0 k1 (by omega) (by omega), e]
theorem ob_isPr [DecidableEq Ob] {u : iST} (hT : TI u) {k : Int} (k0 : 0 ≤ k) (k1 : k < u.1 8) : (ob u k).isPr = true ↔ 0 ≤ u.2.1 0 k := by
  rcases hT.cases k0 k1 with a | a | a
  · rw [ob_nat a]; exact ⟨fun z => (by cases z), fun z => (by omega)⟩
  · rw [ob_sym a]; exact ⟨fun z => (by cases z), fun z => (by omega)⟩
  · rw [ob_pr hT k0 k1 a]; exact ⟨fun _ => a, fun _ => rfl⟩
theorem ob_isNat [DecidableEq Ob] {u : iST} (hT : TI u) {k : Int} (k0 : 0 ≤ k) (k1 : k < u.1 8) : (ob u k).isNat = true ↔ u.2.1 0 k = -1 := by
  rcases hT.cases k0 k1 with a | a | a
  · rw [ob_nat a]; exact ⟨fun _ => a, fun _ => Ob.nat_isNat _⟩
  · rw [ob_sym a, Ob.sym_isNat]; exact ⟨fun z => (by cases z), fun z => (by omega)⟩
  · rw [ob_pr hT k0 k1 a]; exact ⟨fun z => (by cases z), fun z => (by omega)⟩
theorem ob_isSym [DecidableEq Ob] {u : iST} (hT : TI u) {k : Int} (k0 : 0 ≤ k) (k1 : k < u.1 8) : (ob u k).isSym = true ↔ u.2.1 0 k = -2 := by
  rcases hT.cases k0 k1 with a | a | a
  · rw [ob_nat a, Ob.nat_isSym]; exact ⟨fun z => (by cases z), fun z => (by omega)⟩
  · rw [ob_sym a]; exact ⟨fun _ => a, fun _ => Ob.sym_isSym _⟩
  · rw [ob_pr hT k0 k1 a]; exact ⟨fun z => (by cases z), fun z => (by omega)⟩
theorem TI.le [DecidableEq Ob] {u : iST} (hT : TI u) : u.1 8 ≤ 452000 := hT.2.1
theorem p_isPair [DecidableEq Ob] {k : Int} {Q : Int → iST → Prop} {u : iST} (hT : TI u) (k0 : 0 ≤ k) (k1 : k < u.1 8) (h : ∀ r, bq r (ob u k).isPr → Q r u) : pw_isPair k Q u :=
  wp_w_isPair (fun _ _ h => h) (s_isPair k0 (by have := hT.le; omega) (fun r _ hr => h r (bq_of (by rw [ob_isPr hT k0 k1]; omega))))
theorem p_isNatural [DecidableEq Ob] {k : Int} {Q : Int → iST → Prop} {u : iST} (hT : TI u) (k0 : 0 ≤ k) (k1 : k < u.1 8) (h : ∀ r, bq r (ob u k).isNat → Q r u) : pw_isNatural k Q u :=
  wp_w_isNatural (fun _ _ h => h) (s_isNatural k0 (by have := hT.le; omega) (fun r _ hr => h r (bq_of (by rw [ob_isNat hT k0 k1]; omega))))
theorem p_isSymbol [DecidableEq Ob] {k : Int} {Q : Int → iST → Prop} {u : iST} (hT : TI u) (k0 : 0 ≤ k) (k1 : k < u.1 8) (h : ∀ r, bq r (ob u k).isSym → Q r u) : pw_isSymbol k Q u :=
  wp_w_isSymbol (fun _ _ h => h) (s_isSymbol k0 (by have := hT.le; omega) (fun r _ hr => h r (bq_of (by rw [ob_isSym hT k0 k1]; omega))))
theorem p_isVariable [DecidableEq Ob] {k : Int} {Q : Int → iST → Prop} {u : iST} (hT : TI u) (hU : TU u) (k0 : 0 ≤ k) (k1 : k < u.1 8) (h : ∀ r, bq r (ob u k).isVar → Q r u) : pw_isVariable k Q u := by
  refine wp_w_isVariable (fun _ _ h => h) (s_isVariable k0 (by have := hT.le; omega) (fun r _ hr => h r (bq_of ?_)))
  have e0 := TU.at hT hU (i := 0) (by decide) rfl k0 k1
  have e1 := TU.at hT hU (i := 1) (by decide) rfl k0 k1
  rw [hr]
  unfold Ob.isVar
  rw [Bool.and_eq_true, Bool.and_eq_true, ob_isSym hT k0 k1, decide_eq_true_eq, decide_eq_true_eq]
  exact ⟨fun ⟨a, b, c⟩ => ⟨⟨a, fun z => b (e0.mpr z)⟩, fun z => c (e1.mpr z)⟩, fun ⟨⟨a, b⟩, c⟩ => ⟨a, fun z => b (e0.mp z), fun z => c (e1.mp z)⟩⟩
theorem ob_lft [DecidableEq Ob] {u : iST} (hT : TI u) {k : Int} (k0 : 0 ≤ k) (k1 : k < u.1 8) (h : (ob u k).isPr = true) : 0 ≤ u.2.1 0 k ∧ u.2.1 0 k < k ∧ 0 ≤ u.2.1 1 k ∧ u.2.1 1 k < k ∧ (ob u k).lft = ob u (u.2.1 0 k) ∧ (ob u k).rgt = ob u (u.2.1 1 k) ∧ ob u k = .pr (ob u (u.2.1 0 k)) (ob u (u.2.1 1 k)) := by
  have a := (ob_isPr hT k0 k1).mp h
  have hp := hT.pair k0 k1 a
  have e := ob_pr hT k0 k1 a
  exact ⟨a, hp.1, hp.2.1, hp.2.2, by rw [e]; rfl, by rw [e]; rfl, e⟩
theorem p_isCall [DecidableEq Ob] {k : Int} {Q : Int → iST → Prop} {u : iST} (hT : TI u) (hU : TU u) (k0 : 0 ≤ k) (k1 : k < u.1 8) (h : ∀ r, bq r (ob u k).isCall → Q r u) : pw_isCall k Q u := by
  refine wp_w_isCall (fun _ _ h => h) (s_isCall k0 (by have := hT.le; omega) (fun r _ hr => h r (bq_of ?_)))
  rw [hr]
  by_cases c : (ob u k).isPr = true
  · obtain ⟨a, b, _, _, _, _, e⟩ := ob_lft hT k0 k1 c
    have e2 := TU.at hT hU (i := 2) (by decide) rfl a (by omega)
    rw [e]
    unfold Ob.isCall
    rw [decide_eq_true_eq]
    exact ⟨fun z y => z.2 (e2.mpr y), fun z => ⟨a, fun y => z (e2.mp y)⟩⟩
  · refine ⟨fun z => absurd ((ob_isPr hT k0 k1).mpr z.1) c, fun z => ?_⟩
    cases e : ob u k with
    | var x => rw [e] at z; cases z
    | op a b => rw [e] at c; exact absurd rfl c
theorem p_isCallOf [DecidableEq Ob] {k f : Int} {Q : Int → iST → Prop} {u : iST} (hT : TI u) (hU : TU u) (k0 : 0 ≤ k) (k1 : k < u.1 8) (f0 : 0 ≤ f) (f1 : f < u.1 8) (h : ∀ r, bq r ((ob u k).isCallOf (ob u f)) → Q r u) : pw_isCallOf k f Q u := by
  refine wp_w_isCallOf (fun _ _ h => h) (s_isCallOf k0 (by have := hT.le; omega) (fun r _ hr => h r (bq_of ?_)))
  rw [hr]
  by_cases c : (ob u k).isPr = true
  · obtain ⟨a, b, _, _, _, _, e⟩ := ob_lft hT k0 k1 c
    rw [e]
    unfold Ob.isCallOf
    rw [decide_eq_true_eq, hT.inj hU a (by omega) f0 f1]
    exact ⟨fun z => z.2, fun z => ⟨a, z⟩⟩
  · refine ⟨fun z => absurd ((ob_isPr hT k0 k1).mpr z.1) c, fun z => ?_⟩
    cases e : ob u k with
    | var x => rw [e] at z; cases z
    | op a b => rw [e] at c; exact absurd rfl c
