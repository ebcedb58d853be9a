-- deps: 505
/-! the reference, partial: clauses that are laid -/
def f7G (k : Nat) : Bool := f7M k || decide (72 ≤ k ∧ k ≤ 76) || decide (114 ≤ k ∧ k ≤ 117) || decide (121 ≤ k ∧ k ≤ 122) || decide (130 ≤ k ∧ k ≤ 131)
theorem f7M_G [DecidableEq Ob] : ∀ k, f7G k = false → f7M k = false := by
  intro k h
  unfold f7G at h
  simp only [Bool.or_eq_false_iff] at h
  exact h.1.1.1.1
theorem f7D_G [DecidableEq Ob] : ∀ k, f7G k = false → f7D k = false := by
  intro k h
  unfold f7G at h
  simp only [Bool.or_eq_false_iff] at h
  exact h.1.2
theorem f7C_G [DecidableEq Ob] : ∀ k, f7G k = false → f7C k = false := by
  intro k h
  have hm := f7M_G k h
  unfold f7G at h
  simp only [Bool.or_eq_false_iff] at h
  unfold f7C
  rw [hm, h.1.1.2]
  rfl
theorem f7F_G [DecidableEq Ob] : ∀ k, f7G k = false → f7F k = false := by
  intro k h
  unfold f7G at h
  simp only [Bool.or_eq_false_iff, decide_eq_false_iff_not] at h
  unfold f7F
  simp only [Bool.or_eq_false_iff, decide_eq_false_iff_not]
  omega
theorem f7G_mid [DecidableEq Ob] : ∀ k, 12 ≤ k → k ≤ 60 → f7G k = false := by
  intro k h0 h1
  unfold f7G f7M fI
  simp only [Bool.or_eq_false_iff, decide_eq_false_iff_not]
  omega
/-- clauses that were laid -/
def RowsI [DecidableEq Ob] (v : iST) (E : Sp.Env) (cl : List Sp.Cla) : Prop := 0 ≤ v.1 117 ∧ (∀ id, 0 ≤ id → id < v.1 117 → ClOk v E id) ∧ clsL v = cl
theorem cl_same [DecidableEq Ob] {n : Nat → Bool} {u v : iST} {E : Sp.Env} (hT : TI u) (hG : GZ n u v) {id : Int} (h : ClOk u E id) (h115 : v.2.1 115 id = u.2.1 115 id) (h116 : v.2.1 116 id = u.2.1 116 id) (h114 : ∀ i, 0 ≤ i → i < 30 → v.2.1 114 (30 * id + i) = u.2.1 114 (30 * id + i)) : ClOk v E id ∧ cl7 v id = cl7 u id := by
  obtain ⟨c0, c1, c2, c3⟩ := h
  refine ⟨⟨by rw [h115]; exact c0, by rw [h115]; exact c1, by rw [h116]; exact c2, fun i i0 i1 => ?_⟩, ?_⟩
  · rw [h115] at i1
    rw [h114 i i0 (by omega)]
    exact ((c3 i i0 i1).mono hT hG).1
  · unfold cl7 lits
    rw [h115, h116]
    refine congrArg (fun l => (l, _)) (ls_congr (fun i hi => ?_))
    rw [h114 (i : Int) (by omega) (by omega)]
    exact ((c3 (i : Int) (by omega) (by omega)).mono hT hG).2
theorem RowsI.mono [DecidableEq Ob] {n : Nat → Bool} {u v : iST} {E : Sp.Env} {cl : List Sp.Cla} (h : RowsI u E cl) (hT : TI u) (hG : GZ n u v) (e117 : v.1 117 = u.1 117) (e114 : v.2.1 114 = u.2.1 114) (e115 : v.2.1 115 = u.2.1 115) (e116 : v.2.1 116 = u.2.1 116) : RowsI v E cl := by
  have st := fun id i0 i1 => cl_same hT hG (h.2.1 id i0 i1) (by rw [e115]) (by rw [e116]) (fun i _ _ => by rw [e114])
  refine ⟨by rw [e117]; exact h.1, fun id i0 i1 => (st id i0 (by omega)).1, ?_⟩
  rw [← h.2.2]
  unfold clsL
  rw [e117]
  refine List.map_congr_left (fun i hi => ?_)
  have := List.mem_range.mp hi
  exact (st (i : Int) (by omega) (by omega)).2
theorem RowsI.fx [DecidableEq Ob] {n : Nat → Bool} {u v : iST} {E : Sp.Env} {cl : List Sp.Cla} (h : RowsI u E cl) (hT : TI u) (hG : GZ n u v) (hn : ∀ k, 114 ≤ k → k ≤ 117 → n k = false) : RowsI v E cl :=
  h.mono hT hG (hG.2.2.2.2 117 (hn 117 (by decide) (by decide))).1 (hG.2.2.2.2 114 (hn 114 (by decide) (by decide))).2 (hG.2.2.2.2 115 (hn 115 (by decide) (by decide))).2 (hG.2.2.2.2 116 (hn 116 (by decide) (by decide))).2
/-- the draft becomes one more -/
theorem p_rowI [DecidableEq Ob] {Q : Int → iST → Prop} {u : iST} {E : Sp.Env} {cl : List Sp.Cla} (hT : TI u) (hU : TU u) (hD : DfOk u E) (hR : RowsI u E cl)
    (hok : ∀ v, GZ f7C u v → v.1 71 = u.1 71 → u.1 61 = 0 → Sp.bnd (dfl u) = true → v.1 61 = 0 → RowsI v E (cl ++ [(dfl u, 0)]) → Q (u.1 117) v)
    (hbad : ∀ v, GM u v → (∀ k, k ≠ 61 → v.1 k = u.1 k) → v.2 = u.2 → v.1 61 ≠ 0 → (u.1 61 = 0 → Sp.bnd (dfl u) = false) → Q 0 v) : pw_row 0 Q u := by
  have r0 := hR.1
  refine p_row hT hU hD r0 (by decide) (fun v gv v71 u61 hb v61 v117 vk nc nl n116 => hok v gv v71 u61 hb v61 ⟨by omega, fun id i0 i1 => ?_, ?_⟩) hbad
  · by_cases c : id = u.1 117
    · rw [c]; exact nc
    · obtain ⟨k1, k2, k3⟩ := vk id (by omega)
      exact (cl_same hT gv (hR.2.1 id i0 (by omega)) k1 k2 (fun i j0 j1 => k3 _ (by omega))).1
  · unfold clsL
    rw [v117, show (u.1 117 + 1).toNat = (u.1 117).toNat + 1 by omega, List.range_succ, List.map_append, ← hR.2.2]
    refine congr (congrArg _ (List.map_congr_left (fun i hi => ?_))) ?_
    · have := List.mem_range.mp hi
      obtain ⟨k1, k2, k3⟩ := vk (i : Int) (by omega)
      exact (cl_same hT gv (hR.2.1 (i : Int) (by omega) (by omega)) k1 k2 (fun j j0 j1 => k3 _ (by omega))).2
    · show [cl7 v (((u.1 117).toNat : Nat) : Int)] = _
      rw [show (((u.1 117).toNat : Nat) : Int) = u.1 117 by omega]
      unfold cl7
      rw [nl, n116]
      rfl
theorem rng_zip [DecidableEq Ob] {a b : Nat → Ob} {xs l : List Ob} (hl : l.length = xs.length) (ha : ∀ i, i < xs.length → a i = xs.getD i Ob.nil) (hb : ∀ i, i < xs.length → b i = l.getD i Ob.nil) : (List.range xs.length).map (fun i => (a i, b i)) = xs.zip l := by
  refine List.ext_getElem (by simp [hl]) (fun i h1 h2 => ?_)
  have hi : i < xs.length := by simpa using h1
  rw [List.getElem_map, List.getElem_range, List.getElem_zip, ha i hi, hb i hi, List.getD_eq_getElem?_getD, List.getD_eq_getElem?_getD, List.getElem?_eq_getElem hi, List.getElem?_eq_getElem (by omega)]
  rfl
theorem lk_in [DecidableEq Ob] {xs l : List Ob} (hl : l.length = xs.length) {x : Ob} (hx : x ∈ xs) : ∃ y, y ∈ l ∧ Ob.lk (xs.zip l) x = some y := by
  obtain ⟨k, k1, k2, k3⟩ := first_at xs x hx
  have hk : k < l.length := by omega
  exact ⟨l[k], List.getElem_mem hk, lk_zip xs l x _ k k2 (List.getElem?_eq_getElem hk) k3⟩
theorem lkD_in [DecidableEq Ob] {xs l : List Ob} (hl : l.length = xs.length) {x : Ob} (hx : x ∈ xs) : Ob.lkD (xs.zip l) x ∈ l := by
  obtain ⟨y, hy, e⟩ := lk_in hl hx
  unfold Ob.lkD
  rw [e]
  exact hy
theorem MK.cases [DecidableEq Ob] {m : Sp.M Ob} {s : Sp.Wk} {v : iST} {k : Int} (h : MK m s v k) : (v.1 61 = 0 ∧ ∃ s', m s = .ok (ob v k) s' ∧ s'.1 = s.1) ∨ (v.1 61 ≠ 0 ∧ ∃ s', m s = .error () s' ∧ s'.1 = s.1) := by
  rcases h with ⟨s', a, b, c⟩ | ⟨s', a, b, c⟩
  · exact Or.inl ⟨c, s', a, b⟩
  · exact Or.inr ⟨c, s', a, b⟩
theorem bd_congr [DecidableEq Ob] {ε σ α β : Type} {x y : σ → EStateM.Result ε σ α} {s t : σ} (h : x s = y t) (f : α → σ → EStateM.Result ε σ β) : Sp.bd x f s = Sp.bd y f t := by
  unfold Sp.bd
  rw [h]
