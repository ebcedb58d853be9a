/-! isIn, hasOnly, areVariables -/
theorem IsL.nz {u : iST} (hT : TI u) {l : Int} {m : Nat} (h : IsL u l (m + 1)) : l ≠ 0 := by
  intro hz
  have := h.2.2.1
  have := hT.2.2.2.2.2.2.2.2.1 0 (by decide) (by decide)
  rw [hz] at *
  omega
theorem s_isIn {l x : Int} {n : Nat} {Q : Int → iST → Prop} {u : iST} (hT : TI u) (hl : IsL u l n) (hq : ∀ b, bz b → (b ≠ 0 → ∃ i, i < n ∧ el u l i = x) → Q b u) : w_isIn l x Q u := by
  have h8 := hT.2.1
  unfold w_isIn w_isIn_2
  refine lr2 (B := fun R x2 x3 u => w_isIn_2b R Q x2 x3 u) (fun m x2 x3 v => u = v ∧ x = x2 ∧ IsL u x3 m ∧ ∀ i, i < m → ∃ j, j < n ∧ el u l j = el u x3 i) ?_ (n := n) ⟨rfl, rfl, hl, fun i hi => ⟨i, hi, rfl⟩⟩
  intro m x2 x3 v hI R ih
  obtain ⟨e1, e2, p1, p2⟩ := hI
  subst e1
  subst e2
  unfold w_isIn_2b
  cases m with
  | zero => exact br_y p1 (zt_0 (hq 0 (Or.inl rfl) (fun z => absurd rfl z)))
  | succ m =>
    have hx := p1.2.1
    refine br_n (p1.nz hT) (bd_i p1.1 (by omega) (rd_i fun _ => br_i (fun _ => bd_i p1.1 (by omega) (rd_i fun _ => ih m _ _ _ (by omega) ⟨rfl, rfl, p1.2.2.2, fun i hi => p2 (i + 1) (by omega)⟩)) fun he => zt_1 (hq 1 (Or.inr rfl) (fun _ => ?_))))
    obtain ⟨j, j1, j2⟩ := p2 0 (by omega)
    have j2 : el u l j = u.2.1 0 x3 := j2
    exact ⟨j, j1, by omega⟩
theorem AllT.mono {u : iST} {S S' : Int → Prop} (hS : ∀ x, S x → S' x) {o : Int} (h : AllT u S o) : AllT u S' o := by
  obtain ⟨G, h1, h2⟩ := h
  exact ⟨G, fun x hx => ⟨hS x (h1 x hx).1, (h1 x hx).2⟩, h2⟩
/-- not 0: all variables of o are in the list -/
theorem g_hasOnly {o l : Int} {n : Nat} {Q : Int → iST → Prop} {u : iST} (hT : TI u) (ho : IsW u o) (hs : sz u o ≤ 125) (hl : IsL u l n) (hq : ∀ b v, bz b → Fx fV u v → v.2.2 = u.2.2 → (b ≠ 0 → AllT u (VarOk u (fun x => ∃ i, i < n ∧ el u l i = x)) o) → Q b v) : w_hasOnly o l Q u := by
  unfold w_hasOnly
  refine g_variablesOf hT ho hs fun v vF vL v0 v1 v2 v3 => ?_
  have vt : ∀ k, k ≤ 11 → v.1 k = u.1 k ∧ v.2.1 k = u.2.1 k := fun k hk => vF k (fV_75 k hk)
  have vT : TI v := TI_eq hT vt vL
  have hl' : IsL v l n := hl.eq vt
  have ee : ∀ i, i < n → el v l i = el u l i := fun i hi => el_ext (Ext_eq vt vL) hl i hi
  unfold w_hasOnly_7
  refine lf2 (B := fun R x2 x3 u => w_hasOnly_7b R Q x2 x3 u) (fun x2 x3 z => v = z ∧ l = x2 ∧ 0 ≤ x3 ∧ ∀ j, 0 ≤ j → j < x3 → ∃ i, i < n ∧ el u l i = v.2.1 77 j) (fun _ x3 _ => (v.1 78 - x3).toNat) ?_ ⟨rfl, rfl, Int.le_refl _, fun j j0 j1 => by omega⟩
  intro x2 x3 z hI R ih
  obtain ⟨e1, e2, p1, p2⟩ := hI
  subst e1
  subst e2
  unfold w_hasOnly_7b
  refine rd_i fun _ => br_i (fun hle => zt_1 (hq 1 v (Or.inr rfl) vF vL (fun _ => v3.mono (fun x hx hv => ?_)))) fun hlt => bd_i p1 (by omega) (rd_i fun _ => s_isIn vT hl' fun b _ hb => br_i (fun hz => ov_i (by omega) (by omega) (ih _ _ _ ⟨rfl, rfl, by omega, fun j j0 j1 => ?_⟩ (by omega))) fun _ => zt_0 (hq 0 v (Or.inl rfl) vF vL (fun z => absurd rfl z)))
  · obtain ⟨j, j0, j1, j2⟩ := hx hv
    obtain ⟨i, i1, i2⟩ := p2 j j0 (by omega)
    exact ⟨i, i1, i2.trans j2⟩
  · by_cases e : j = x3
    · obtain ⟨i, i1, i2⟩ := hb hz
      exact ⟨i, i1, by rw [e, ← ee i i1]; exact i2⟩
    · exact p2 j j0 (by omega)
/-- not 0: a list of at most a variables -/
theorem s_areVariables {l a : Int} {Q : Int → iST → Prop} {u : iST} (hT : TI u) (l0 : 0 ≤ l) (l1 : l < u.1 8) (ha : a ≤ 1000) (hq : ∀ b, bz b → (b ≠ 0 → ∃ n : Nat, (n : Int) ≤ a ∧ IsL u l n ∧ ∀ i, i < n → u.2.1 0 (el u l i) = -2 ∧ el u l i ≠ 0 ∧ el u l i ≠ 1) → Q b u) : w_areVariables l a Q u := by
  have h8 := hT.2.1
  have no : zt 0 (Q 0 u) := zt_0 (hq 0 (Or.inl rfl) (fun z => absurd rfl z))
  unfold w_areVariables
  refine s_lengthOf hT l0 l1 (fun _ => br_y rfl no) fun n hn hl => br_n (by omega) (br_i (fun hle => ?_) (fun _ => no))
  unfold w_areVariables_21
  refine lf3 (B := fun R x1 x3 x4 u => w_areVariables_21b R Q x1 x3 x4 u) (fun x1 x3 x4 v => u = v ∧ l = x1 ∧ x3 = n ∧ 0 ≤ x4 ∧ ∀ i : Nat, (i : Int) < x4 → i < n → u.2.1 0 (el u l i) = -2 ∧ el u l i ≠ 0 ∧ el u l i ≠ 1) (fun _ _ x4 _ => (n - x4).toNat) ?_ ⟨rfl, rfl, rfl, Int.le_refl _, fun i hi _ => by omega⟩
  intro x1 x3 x4 v hI R ih
  obtain ⟨e1, e2, e3, p1, p2⟩ := hI
  subst e1
  subst e2
  subst e3
  unfold w_areVariables_21b
  refine br_i (fun hc => zt_1 (hq 1 (Or.inr rfl) (fun _ => ⟨n, by omega, hl, fun i hi => p2 i (by omega) hi⟩))) fun hc => s_nth hT l0 l1 p1 (by omega) ?_
  have hr := hl.elr hT x4.toNat (by omega)
  refine s_isVariable hr.1 (by omega) fun b _ hb => br_i (fun hz => ?_) (fun _ => no)
  have hvar := hb.mp hz
  unfold w_areVariables_46
  refine lf4 (B := fun R46 x1 x3 x4 x5 u => w_areVariables_46b R R46 Q x1 x3 x4 x5 u) (fun y1 y3 y4 y5 z => u = z ∧ l = y1 ∧ y3 = n ∧ x4 = y4 ∧ 0 ≤ y5) (fun _ _ _ y5 _ => (x4 - y5).toNat) ?_ ⟨rfl, rfl, rfl, rfl, Int.le_refl _⟩
  intro y1 y3 y4 y5 z hI2 R46 ih2
  obtain ⟨e1, e2, e3, e4, q1⟩ := hI2
  subst e1
  subst e2
  subst e3
  subst e4
  unfold w_areVariables_46b
  refine br_i (fun _ => ov_i (by omega) (by omega) (ih _ _ _ _ ⟨rfl, rfl, rfl, by omega, fun i hi hin => ?_⟩ (by omega))) fun hlt => s_nth hT l0 l1 q1 (by omega) (s_nth hT l0 l1 p1 (by omega) (br_i (fun _ => ov_i (by omega) (by omega) (ih2 _ _ _ _ _ ⟨rfl, rfl, rfl, rfl, by omega⟩ (by omega))) fun _ => no))
  by_cases e : (i : Int) = x4
  · rw [show i = x4.toNat from by omega]; exact hvar
  · exact p2 i (by omega) hin
