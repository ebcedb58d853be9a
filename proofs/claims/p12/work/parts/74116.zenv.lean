-- deps: 799985
/-! the replay, the class: definitions and theorems, of which the last may be taken by the work itself -/
def DOz [DecidableEq Ob] (u : iST) (E : Sp.Env) : Prop := (∃ n : Nat, E.defs = (dfsC u).take n) ∧ 0 ≤ u.1 0 ∧ ∀ d, 0 ≤ d → d < u.1 0 → D1c u d
theorem DOc.z [DecidableEq Ob] {u : iST} {E : Sp.Env} (h : DOc u E) : DOz u E := ⟨⟨(dfsC u).length, by rw [h.1, List.take_length]⟩, h.2⟩
/-- all that are there now -/
theorem DOz.full [DecidableEq Ob] {u : iST} {E : Sp.Env} (h : DOz u E) : DOc u (dfsC u, E.2) := ⟨rfl, h.2⟩
theorem DOz.mono [DecidableEq Ob] {n r : Nat → Bool} {u v : iST} {E : Sp.Env} (h : DOz u E) (hT : CT u) (g : CG n r u v) (h0 : v.1 0 = u.1 0) (hr : ∀ k, k ≤ 4 → v.2.1 k = u.2.1 k) : DOz v E := by
  obtain ⟨⟨k, e⟩, h2, h3⟩ := h
  have q := DOc.mono (E := (dfsC u, E.2)) ⟨rfl, h2, h3⟩ hT g h0 hr
  have e2 : dfsC u = dfsC v := q.1
  exact ⟨⟨k, by rw [← e2]; exact e⟩, q.2⟩
theorem dfn_none_z [DecidableEq Ob] {u : iST} {E : Sp.Env} (hD : DOz u E) {o : Ob} (h : Sp.Env.dfn (dfsC u, E.2) o = none) : E.dfn o = none := by
  obtain ⟨⟨k, e⟩, _⟩ := hD
  unfold Sp.Env.dfn at h ⊢
  rw [e]
  have h : (dfsC u).find? (fun d => decide (d.name = o)) = none := h
  rw [List.find?_eq_none] at h ⊢
  exact fun x hx => h x (List.mem_of_mem_take hx)
theorem dfn_some_z [DecidableEq Ob] {u : iST} {E : Sp.Env} (hD : DOz u E) {o : Ob} {D D' : Sp.Dfn} (h : E.dfn o = some D) (h' : Sp.Env.dfn (dfsC u, E.2) o = some D') : D = D' := by
  obtain ⟨⟨k, e⟩, _⟩ := hD
  unfold Sp.Env.dfn at h h'
  rw [e] at h
  have h' : (dfsC u).find? (fun d => decide (d.name = o)) = some D' := h'
  rw [← List.take_append_drop k (dfsC u), List.find?_append, h] at h'
  exact Option.some.inj h'
theorem dfn_base_z [DecidableEq Ob] {u : iST} {E : Sp.Env} (hT : CT u) (hD : DOz u E) {f : Int} (hf : VN u f) (h : f ≤ 16) : E.dfn (oc u f) = none := dfn_none_z hD (dfn_base hT hD.full hf h)
/-- a function that a term may call -/
theorem pc_functionOf_z [DecidableEq Ob] {f : Int} {Q : Int → iST → Prop} {u : iST} {E : Sp.Env} (hT : CT u) (hD : DOz u E) (hf : VN u f) (ha : 0 ≤ Sp.arOf E (oc u f)) (hn : E.dfn (oc u f) = none → Q (-1) u) (hs : ∀ d, 0 ≤ d → d < u.1 0 → u.2.1 0 d = f → E.dfn (oc u f) = some (dfnC u d) → Q d u) : pv_0_functionOf f Q u := by
  refine pc_functionOf hT hD.full hf (fun h => hn (dfn_none_z hD h)) (fun d d0 d1 hd h => ?_)
  cases e : E.dfn (oc u f) with
  | some D => exact hs d d0 d1 hd (by rw [e, dfn_some_z hD e h])
  | none =>
    exfalso
    obtain ⟨v1, nm, _⟩ := hD.2.2 d d0 d1
    have h17 := (oc_isName hT v1).mp nm
    rw [hd] at h17
    have ho := arOf_out (E := E) hT hf (by omega)
    rw [e] at ho
    have ho : Sp.arOf E (oc u f) = -1 := ho
    omega
def TOz [DecidableEq Ob] (u : iST) (E : Sp.Env) : Prop := (E.thms.length : Int) = u.1 25 ∧ u.1 25 ≤ u.1 1 ∧ (∀ r : Nat, (r : Int) < u.1 25 → Th1c u E (r : Int) ∧ (∃ k, E.thms[r]? = some k ∧ thC u (r : Int) k) ∧ (u.2.1 13 (r : Int) ≠ 0 ↔ Ob.has E.muted (oc u (u.2.1 5 (r : Int))) = true))
theorem TOc.z [DecidableEq Ob] {u : iST} {E : Sp.Env} (h : TOc u E) (h25 : u.1 25 = u.1 1) : TOz u E := ⟨by rw [h25]; exact h.1, by omega, fun r hr => h.2 r (by omega)⟩
theorem EnC.keep_z [DecidableEq Ob] {v w : iST} {E : Sp.Env} {c h : Int} {env : Ob → Ob} {o : Ob} (hE : EnC v h env o) (hT : CT v) (hD : DOz v E) (k : EvK c h v w) (e6 : w.1 6 = v.1 6) (e7 : w.1 7 = v.1 7) : EnC w h env o := hE.keep hT hD.full k e6 e7
theorem pc_parameterValue_z [DecidableEq Ob] {x h : Int} {Q : Int → iST → Prop} {v : iST} {E : Sp.Env} {env : Ob → Ob} (hT : CT v) (hD : DOz v E) (hx : VN v x) (hv : (oc v x).isVar = true) (hE : EnC v h env (oc v x)) (h5 : v.1 5 = h) (hq : ∀ r, VN v r → oc v r = env (oc v x) → Q r v) : pv_2_parameterValue x Q v := pc_parameterValue hT hD.full hx hv hE h5 hq
theorem DOz.ev [DecidableEq Ob] {u v : iST} {E : Sp.Env} (h : DOz u E) (hT : CT u) (g : CG f8En f8Er u v) : DOz v E := h.mono hT g (g.2.2.1 0 (by decide)) (fun k hk => g.2.2.2 k (by unfold f8Er; simp only [Bool.or_eq_false_iff, decide_eq_false_iff_not]; omega))
