-- deps: 507
/-! the reference, partial: names, what was taken -/
theorem isName_iff [DecidableEq Ob] {u : iST} (hT : TI u) (hU : TU u) {k : Int} (k0 : 0 ≤ k) (k1 : k < u.1 8) (hs : (ob u k).isSym = true) : (ob u k).isName = true ↔ 16 < k := by
  have h8 := hT.1
  have at' : ∀ (c : Int) (o : Ob), 0 ≤ c → c < 44 → Ob.known[c.toNat]? = some o → (k = c ↔ ob u k = o) := fun c o c0 c4 ho => kat hT hU c c0 c4 ho k0 k1
  unfold Ob.isName Ob.reserved
  rw [hs, Bool.true_and, Bool.not_eq_true', Bool.or_eq_false_iff, Bool.or_eq_false_iff, Bool.or_eq_false_iff, decide_eq_false_iff_not, decide_eq_false_iff_not, decide_eq_false_iff_not, ← at' 0 Ob.nil (by decide) (by decide) rfl, ← at' 1 Ob.t (by decide) (by decide) rfl, ← at' 2 Ob.quote (by decide) (by decide) rfl]
  constructor
  · intro ⟨⟨⟨a, b⟩, c⟩, d⟩
    rcases Int.lt_or_le 16 k with h | h
    · exact h
    · have := base_nd hT hU (f := k) (by omega) h
      rw [this] at d
      cases d
  · intro h
    refine ⟨⟨⟨by omega, by omega⟩, by omega⟩, ?_⟩
    cases e : (ob u k).isBase with
    | false => rfl
    | true =>
      have := base_is hT hU k0 k1 e
      omega
theorem p_isNewName [DecidableEq Ob] {k : Int} {Q : Int → iST → Prop} {u : iST} (hT : TI u) (hU : TU u) (k0 : 0 ≤ k) (k1 : k < u.1 8) (h : ∀ r, bq r (ob u k).isName → Q r u) : pw_isNewName k Q u := by
  unfold pw_isNewName
  refine p_isSymbol hT k0 k1 (fun r hr => ⟨fun hz _ => h 0 (bq0 ?_), fun hz => ?_⟩)
  · unfold Ob.isName
    rw [hr.f hz]; rfl
  · have hs := hr.t hz
    have hi := isName_iff hT hU k0 k1 hs
    unfold pw_isReserved
    refine ⟨fun a => absurd k0 (by omega), fun _ => ⟨fun a _ => ?_, fun a _ => ?_⟩⟩
    · exact ⟨fun z => absurd rfl z, fun _ _ => h 1 (bq1 (hi.mpr a))⟩
    · refine ⟨fun _ _ => h 0 (bq0 ?_), fun z => absurd (by decide) z⟩
      cases e : (ob u k).isName with
      | false => rfl
      | true => exact absurd (hi.mp e) a
theorem dfs_find [DecidableEq Ob] {u : iST} {E : Sp.Env} (hT : TI u) (hU : TU u) (hD : DOk u E) {f : Int} (f0 : 0 ≤ f) (f1 : f < u.1 8) : (∀ d, 0 ≤ d → d < u.1 35 → u.2.1 36 d = f → (∀ e, 0 ≤ e → e < d → u.2.1 36 e ≠ f) → E.dfn (ob u f) = some (dfn1 u d)) ∧ ((∀ d, 0 ≤ d → d < u.1 35 → u.2.1 36 d ≠ f) → E.dfn (ob u f) = none) := by
  obtain ⟨e1, d0, hd⟩ := hD
  have hnm : ∀ d, 0 ≤ d → d < u.1 35 → (decide ((dfn1 u d).name = ob u f) = true ↔ u.2.1 36 d = f) := by
    intro d q0 q1
    have := (hd d q0 q1).1
    rw [decide_eq_true_eq]
    exact hT.inj hU this.1 this.2.1 f0 f1
  have fr := find_rng (g := fun i : Nat => dfn1 u (i : Int)) (p := fun d => decide (Sp.Dfn.name d = ob u f)) (u.1 35).toNat
  unfold Sp.Env.dfn
  rw [e1]
  refine ⟨fun d q0 q1 hf hl => ?_, fun hn => fr.2 (fun e he => ?_)⟩
  · have := fr.1 d.toNat (by omega) (by rw [show ((d.toNat : Nat) : Int) = d by omega]; exact (hnm d q0 q1).mpr hf) (fun e he => ?_)
    · rw [show ((d.toNat : Nat) : Int) = d by omega] at this
      exact this
    · exact decide_eq_false (fun z => hl (e : Int) (by omega) (by omega) ((hnm (e : Int) (by omega) (by omega)).mp (decide_eq_true z)))
  · exact decide_eq_false (fun z => hn (e : Int) (by omega) (by omega) ((hnm (e : Int) (by omega) (by omega)).mp (decide_eq_true z)))
theorem p_definition [DecidableEq Ob] {f : Int} {Q : Int → iST → Prop} {u : iST} {E : Sp.Env} (hT : TI u) (hU : TU u) (hD : DOk u E) (f0 : 0 ≤ f) (f1 : f < u.1 8) (hn : E.dfn (ob u f) = none → Q (-1) u) (hs : ∀ d, 0 ≤ d → d < u.1 35 → u.2.1 36 d = f → E.dfn (ob u f) = some (dfn1 u d) → Q d u) : pw_definition f Q u := by
  have fr := dfs_find hT hU hD f0 f1
  unfold pw_definition
  refine pw_definition_2_i (fun x1 x2 v => v = u ∧ x1 = f ∧ 0 ≤ x2 ∧ ∀ d, 0 ≤ d → d < x2 → d < u.1 35 → u.2.1 36 d ≠ f) ?_ ⟨rfl, rfl, by omega, fun d _ _ => by omega⟩
  intro x1 x2 v hI
  obtain ⟨e1, e2, i0, hi⟩ := hI
  rw [e1, e2]
  unfold pw_definition_2b
  intro y ey _
  refine ⟨fun hc => hn (fr.2 (fun d d0 d1 => hi d d0 (by omega) d1)), fun hc => ?_⟩
  intro _ _ z ez _
  rw [ez]
  refine ⟨fun hd _ => ⟨rfl, rfl, by omega, fun d d0 d1 d2 => ?_⟩, fun hd => ?_⟩
  · by_cases c : d = x2
    · rw [c]; exact hd
    · exact hi d d0 (by omega) d2
  · exact hs x2 i0 (by omega) (Decidable.not_not.mp hd) (fr.1 x2 i0 (by omega) (Decidable.not_not.mp hd) (fun e e0 e1 => hi e e0 e1 (by omega)))
theorem thms_find [DecidableEq Ob] {u : iST} {E : Sp.Env} (hT : TI u) (hU : TU u) (hD : TOk u E) {f : Int} (f0 : 0 ≤ f) (f1 : f < u.1 8) : (∀ d, 0 ≤ d → d < u.1 42 → u.2.1 43 d = f → (∀ e, 0 ≤ e → e < d → u.2.1 43 e ≠ f) → E.thmOf (ob u f) = some (thm1 u d)) ∧ ((∀ d, 0 ≤ d → d < u.1 42 → u.2.1 43 d ≠ f) → E.thmOf (ob u f) = none) := by
  obtain ⟨e1, d0, hd, _⟩ := hD
  have hnm : ∀ d, 0 ≤ d → d < u.1 42 → (decide ((thm1 u d).name = ob u f) = true ↔ u.2.1 43 d = f) := by
    intro d q0 q1
    have := (hd d q0 q1).1
    rw [decide_eq_true_eq]
    exact hT.inj hU this.1 this.2 f0 f1
  have fr := find_rng (g := fun i : Nat => thm1 u (i : Int)) (p := fun d => decide (Sp.Thm.name d = ob u f)) (u.1 42).toNat
  unfold Sp.Env.thmOf
  rw [e1]
  refine ⟨fun d q0 q1 hf hl => ?_, fun hn => fr.2 (fun e he => ?_)⟩
  · have := fr.1 d.toNat (by omega) (by rw [show ((d.toNat : Nat) : Int) = d by omega]; exact (hnm d q0 q1).mpr hf) (fun e he => ?_)
    · rw [show ((d.toNat : Nat) : Int) = d by omega] at this
      exact this
    · exact decide_eq_false (fun z => hl (e : Int) (by omega) (by omega) ((hnm (e : Int) (by omega) (by omega)).mp (decide_eq_true z)))
  · exact decide_eq_false (fun z => hn (e : Int) (by omega) (by omega) ((hnm (e : Int) (by omega) (by omega)).mp (decide_eq_true z)))
theorem p_theoremOf [DecidableEq Ob] {f : Int} {Q : Int → iST → Prop} {u : iST} {E : Sp.Env} (hT : TI u) (hU : TU u) (hD : TOk u E) (f0 : 0 ≤ f) (f1 : f < u.1 8) (hn : E.thmOf (ob u f) = none → Q (-1) u) (hs : ∀ d, 0 ≤ d → d < u.1 42 → u.2.1 43 d = f → E.thmOf (ob u f) = some (thm1 u d) → (∀ e, 0 ≤ e → e < d → u.2.1 43 e ≠ f) → Q d u) : pw_theoremOf f Q u := by
  have fr := thms_find hT hU hD f0 f1
  unfold pw_theoremOf
  refine pw_theoremOf_2_i (fun x1 x2 v => v = u ∧ x1 = f ∧ 0 ≤ x2 ∧ ∀ d, 0 ≤ d → d < x2 → d < u.1 42 → u.2.1 43 d ≠ f) ?_ ⟨rfl, rfl, by omega, fun d _ _ => by omega⟩
  intro x1 x2 v hI
  obtain ⟨e1, e2, i0, hi⟩ := hI
  rw [e1, e2]
  unfold pw_theoremOf_2b
  intro y ey _
  refine ⟨fun hc => hn (fr.2 (fun d d0 d1 => hi d d0 (by omega) d1)), fun hc => ?_⟩
  intro _ _ z ez _
  rw [ez]
  refine ⟨fun hd _ => ⟨rfl, rfl, by omega, fun d d0 d1 d2 => ?_⟩, fun hd => ?_⟩
  · by_cases c : d = x2
    · rw [c]; exact hd
    · exact hi d d0 (by omega) d2
  · exact hs x2 i0 (by omega) (Decidable.not_not.mp hd) (fr.1 x2 i0 (by omega) (Decidable.not_not.mp hd) (fun e e0 e1 => hi e e0 e1 (by omega))) (fun e e0 e1 => hi e e0 e1 (by omega))
/-- what a command may change when it takes nothing -/
def f7K (k : Nat) : Bool := !(decide (12 ≤ k ∧ k ≤ 14) || decide (35 ≤ k ∧ k ≤ 57) || decide (k = 59) || decide (k = 132))
theorem p_rowList [DecidableEq Ob] {id : Int} {Q : Int → iST → Prop} {u : iST} {E : Sp.Env} (hT : TI u) (hU : TU u) (hC : ClOk u E id) (hq : ∀ k v, GZ fT u v → 0 ≤ k → k < v.1 8 → ob v k = Ob.ofList (lits u id) → Q k v) : pw_rowList id Q u := by
  obtain ⟨c0, c1, c2, c3⟩ := hC
  have hlen : (lits u id).length = (u.2.1 115 id).toNat := ls_len _ _ _ _
  have k0 := kn hT hU 0 (by decide) (by decide) rfl
  unfold pw_rowList
  intro _ _ x ex _ _
  rw [ex]
  refine pw_rowList_11_i (fun x1 x2 x3 v => x1 = id ∧ GZ fT u v ∧ -1 ≤ x3 ∧ x3 < u.2.1 115 id ∧ 0 ≤ x2 ∧ x2 < v.1 8 ∧ ob v x2 = Ob.ofList ((lits u id).drop (x3 + 1).toNat)) ?_ ⟨rfl, GZ.rf hT hU, by omega, by omega, k0.1, k0.2.1, by rw [k0.2.2, List.drop_eq_nil_of_le (by omega)]; rfl⟩
  intro x1 x2 x3 v hI
  obtain ⟨e1, gv, a1, a2, a3, a4, a5⟩ := hI
  rw [e1]
  have e114 : v.2.1 114 = u.2.1 114 := (gv.2.2.2.2 114 (by decide)).2
  unfold pw_rowList_11b
  refine ⟨fun hc => hq x2 v gv a3 a4 ?_, fun hc => ?_⟩
  · rw [a5, show (x3 + 1).toNat = 0 by omega, List.drop_zero]
  · intro _ _ _ _ y ey _
    rw [e114] at ey
    obtain ⟨n1, n2⟩ := (c3 x3 (by omega) a2).mono hT gv
    rw [ey]
    refine p_pair gv.1 gv.2.1 n1.1 n1.2.1 a3 a4 (fun k w gw w0 w1 ek _ => ⟨rfl, gv.tr gw.gz, by omega, by omega, w0, w1, ?_⟩)
    rw [ek, n2, a5, show (x3 + -1 + 1).toNat = x3.toNat by omega, drop_cons (lits u id) x3.toNat Ob.nil (by omega), show (x3 + 1).toNat = x3.toNat + 1 by omega]
    have hg : (lits u id)[x3.toNat]? = some (ob u (u.2.1 114 (30 * id + ((x3.toNat : Nat) : Int)))) := ls_get _ _ _ _ (by omega)
    rw [List.getD_eq_getElem?_getD, hg, show ((x3.toNat : Nat) : Int) = x3 by omega]
    rfl
theorem fT_f7T [DecidableEq Ob] : ∀ k, f7T k = false → fT k = false → True := fun _ _ _ => trivial
/-- OUT is told -/
theorem p_tellOut [DecidableEq Ob] {a : Int} {Q : iST → Prop} {u : iST} (hT : TI u) (hU : TU u) (h64 : u.1 64 = 0) (a0 : 0 ≤ a) (a1 : a < u.1 8) (hq : ∀ v, GZ f7T u v → v.1 64 = 0 → v.1 16 = (((Ob.told (ob u a)).take 2000).length : Int) → Q v) : pw_tellOut a Q u := by
  unfold pw_tellOut
  intro w ew
  have g : GZ f7T u w := by
    rw [ew]
    exact GZ_eq (GZ.rf hT hU) (fun k hk => ⟨if_neg (by omega), rfl⟩) rfl (Fx_I (by decide))
  have w16 : w.1 16 = 0 := by rw [ew]; rfl
  have w64 : w.1 64 = 0 := by rw [ew]; exact h64
  clear ew
  have hl := g.le
  have n0 : l7N w = 0 := by unfold l7N; rw [if_pos w64]; exact w16
  refine p_tellObject g.1 g.2.1 ⟨by rw [n0]; exact Int.le_refl _, by rw [n0]; omega⟩ a0 (by omega) (fun v hv => ?_)
  obtain ⟨gv, v64, vL, vt⟩ := hv
  have v64' : v.1 64 = 0 := v64.trans w64
  refine hq v (g.tr gv) v64' ?_
  have e0 : Lt w = [] := by unfold Lt; rw [n0]; rfl
  have c0 : l7C w = 2000 := by unfold l7C; rw [if_pos w64]
  rw [e0, c0, List.nil_append, g.ob hT a0 a1] at vt
  have nv : l7N v = v.1 16 := by unfold l7N; rw [if_pos v64']
  have hlen : (Lt v).length = (v.1 16).toNat := by unfold Lt; rw [nv]; simp
  rw [← vt, hlen]
  have := vL.1
  rw [nv] at this
  omega
theorem p_tellLeft [DecidableEq Ob] {Q : iST → Prop} {u : iST} {E : Sp.Env} (hT : TI u) (hU : TU u) (h64 : u.1 64 = 0) (l0 : 0 ≤ u.1 63) (hC : ∀ i, 0 ≤ i → i < u.1 63 → ClOk u E (u.2.1 120 i)) (hq : ∀ v, GZ f7K u v → v.1 64 = 0 → v.1 60 = u.1 60 → v.1 63 = u.1 63 → v.1 62 = u.1 62 → Q v) : pw_tellLeft Q u := by
  have k0 := kn hT hU 0 (by decide) (by decide) rfl
  unfold pw_tellLeft
  intro x ex _ _
  rw [ex]
  refine pw_tellLeft_9_i (fun x1 x2 v => GZ fT u v ∧ 0 ≤ x1 ∧ x1 < v.1 8 ∧ -1 ≤ x2 ∧ x2 < u.1 63) ?_ ⟨GZ.rf hT hU, k0.1, k0.2.1, by omega, by omega⟩
  intro x1 x2 v hI
  obtain ⟨gv, a0, a1, b0, b1⟩ := hI
  unfold pw_tellLeft_9b
  refine ⟨fun hc => ?_, fun hc => ?_⟩
  · refine p_tellOut gv.1 gv.2.1 (((gv.2.2.2.2 64 (by decide)).1).trans h64) a0 a1 (fun w gw w64 _ => hq w ((gv.mono (fun k hk => ?_)).tr (gw.mono (fun k hk => ?_))) w64 ?_ ?_ ?_)
    · unfold f7K at hk
      unfold fT
      simp only [Bool.not_eq_false', Bool.or_eq_true, decide_eq_true_eq] at hk
      simp only [decide_eq_false_iff_not]
      omega
    · unfold f7K at hk
      unfold f7T f7L
      simp only [Bool.not_eq_false', Bool.or_eq_true, decide_eq_true_eq] at hk
      simp only [Bool.or_eq_false_iff, decide_eq_false_iff_not]
      omega
    · rw [(gw.2.2.2.2 60 (by decide)).1, (gv.2.2.2.2 60 (by decide)).1]
    · rw [(gw.2.2.2.2 63 (by decide)).1, (gv.2.2.2.2 63 (by decide)).1]
    · rw [(gw.2.2.2.2 62 (by decide)).1, (gv.2.2.2.2 62 (by decide)).1]
  · intro _ _ y ey _
    rw [(gv.2.2.2.2 120 (by decide)).2] at ey
    have cl := hC x2 (by omega) b1
    have e115 := (gv.2.2.2.2 115 (by decide)).2
    have e114 := (gv.2.2.2.2 114 (by decide)).2
    have e116 := (gv.2.2.2.2 116 (by decide)).2
    have clv := (cl_same hT gv cl (by rw [e115]) (by rw [e116]) (fun i _ _ => by rw [e114])).1
    rw [ey]
    refine p_rowList gv.1 gv.2.1 clv (fun k w gw k0' k1' _ => ?_)
    have hl := gw.le
    refine p_pair gw.1 gw.2.1 k0' k1' a0 (by omega) (fun j t gt j0 j1 _ _ => ⟨(gv.tr gw).tr gt.gz, j0, j1, by omega, by omega⟩)
