-- deps: 699
/-! the class: what a node of its room is -/
def ocF [DecidableEq Ob] : Nat → iST → Int → Ob
  | 0, _, _ => Ob.nil
  | n + 1, u, k => if u.2.2 k < 0 then .pr (ocF n u (cL (u.2.2 k))) (ocF n u (cR (u.2.2 k))) else if u.2.2 k < 4611686018427387904 then .nat (u.2.2 k) else .sym (wdC (u.2.2 k - 4611686018427387904).toNat)
def oc [DecidableEq Ob] (u : iST) (k : Int) : Ob := ocF (k.toNat + 1) u k
/-- a cell that may stand in a room of n nodes -/
def CellOk [DecidableEq Ob] (n c : Int) : Prop := (c < 0 → cL c < n ∧ cR c < n ∧ c = 2147483648 * cL c + cR c - 9223372036854775808) ∧ (4611686018427387904 ≤ c → c < 9223372036854775808 ∧ cdOk (c - 4611686018427387904).toNat)
/-- nodes: each cell is well made of older ones, no two alike -/
def CIc [DecidableEq Ob] (u : iST) : Prop := (44 ≤ u.1 29 ∧ u.1 29 ≤ 160000) ∧ (∀ k, 0 ≤ k → k < u.1 29 → CellOk k (u.2.2 k)) ∧ ∀ i j, 0 ≤ i → i < j → j < u.1 29 → u.2.2 i ≠ u.2.2 j
theorem ocF_s [DecidableEq Ob] {u : iST} (hI : CIc u) : ∀ (n : Nat) (k : Int), 0 ≤ k → k < u.1 29 → k.toNat < n → ocF n u k = oc u k
  | 0, k, _, _, h => by omega
  | n + 1, k, k0, k1, h => by
    unfold oc
    show (if u.2.2 k < 0 then _ else _) = (if u.2.2 k < 0 then _ else _)
    by_cases c1 : u.2.2 k < 0
    · rw [if_pos c1, if_pos c1]
      obtain ⟨a, b, _⟩ := (hI.2.1 k k0 k1).1 c1
      have l0 := cL_r (u.2.2 k)
      have r0 := cR_r (u.2.2 k)
      rw [ocF_s hI n _ l0.1 (by omega) (by omega), ocF_s hI n _ r0.1 (by omega) (by omega), ocF_s hI k.toNat _ l0.1 (by omega) (by omega), ocF_s hI k.toNat _ r0.1 (by omega) (by omega)]
    · rw [if_neg c1, if_neg c1]
theorem oc_pr [DecidableEq Ob] {u : iST} (hI : CIc u) {k : Int} (k0 : 0 ≤ k) (k1 : k < u.1 29) (h : u.2.2 k < 0) : oc u k = .pr (oc u (cL (u.2.2 k))) (oc u (cR (u.2.2 k))) := by
  obtain ⟨a, b, _⟩ := (hI.2.1 k k0 k1).1 h
  have l0 := cL_r (u.2.2 k)
  have r0 := cR_r (u.2.2 k)
  refine (if_pos h : ocF (k.toNat + 1) u k = .pr (ocF k.toNat u (cL (u.2.2 k))) (ocF k.toNat u (cR (u.2.2 k)))).trans ?_
  rw [ocF_s hI _ _ l0.1 (by omega) (by omega), ocF_s hI _ _ r0.1 (by omega) (by omega)]
theorem oc_nat [DecidableEq Ob] {u : iST} {k : Int} (h0 : 0 ≤ u.2.2 k) (h : u.2.2 k < 4611686018427387904) : oc u k = .nat (u.2.2 k) := by
  unfold oc; exact (if_neg (by omega)).trans (if_pos h)
theorem oc_sym [DecidableEq Ob] {u : iST} {k : Int} (h : 4611686018427387904 ≤ u.2.2 k) : oc u k = .sym (wdC (u.2.2 k - 4611686018427387904).toNat) := by
  unfold oc; exact (if_neg (by omega)).trans (if_neg (by omega))
theorem CIc.cases [DecidableEq Ob] (u : iST) (k : Int) : u.2.2 k < 0 ∨ (0 ≤ u.2.2 k ∧ u.2.2 k < 4611686018427387904) ∨ 4611686018427387904 ≤ u.2.2 k := by omega
theorem oc_inj [DecidableEq Ob] {u : iST} (hI : CIc u) : ∀ (n : Nat) (j k : Int), j.toNat < n → 0 ≤ j → j < u.1 29 → 0 ≤ k → k < u.1 29 → oc u j = oc u k → j = k
  | 0, j, k, h, _, _, _, _, _ => by omega
  | n + 1, j, k, hn, j0, j1, k0, k1, e => by
    have same : u.2.2 j = u.2.2 k → j = k := fun h => by
      rcases Int.lt_trichotomy j k with c | c | c
      · exact absurd h (hI.2.2 j k j0 c k1)
      · exact c
      · exact absurd h.symm (hI.2.2 k j k0 c j1)
    rcases CIc.cases u j with a | a | a <;> rcases CIc.cases u k with b | b | b
    · obtain ⟨p1, p2, p3⟩ := (hI.2.1 j j0 j1).1 a
      obtain ⟨q1, q2, q3⟩ := (hI.2.1 k k0 k1).1 b
      have jl := cL_r (u.2.2 j)
      have jr := cR_r (u.2.2 j)
      have kl := cL_r (u.2.2 k)
      have kr := cR_r (u.2.2 k)
      rw [oc_pr hI j0 j1 a, oc_pr hI k0 k1 b] at e
      have e' := Ob.pr.inj e
      have e1 := oc_inj hI n _ _ (by omega) jl.1 (by omega) kl.1 (by omega) e'.1
      have e2 := oc_inj hI n _ _ (by omega) jr.1 (by omega) kr.1 (by omega) e'.2
      exact same (by rw [p3, q3, e1, e2])
    · rw [oc_pr hI j0 j1 a, oc_nat b.1 b.2] at e; cases e
    · rw [oc_pr hI j0 j1 a, oc_sym b] at e; cases e
    · rw [oc_nat a.1 a.2, oc_pr hI k0 k1 b] at e; cases e
    · rw [oc_nat a.1 a.2, oc_nat b.1 b.2] at e; exact same (Ob.nat.inj e a.1 b.1)
    · rw [oc_nat a.1 a.2, oc_sym b] at e; exact absurd e Ob.nat_ne
    · rw [oc_sym a, oc_pr hI k0 k1 b] at e; cases e
    · rw [oc_sym a, oc_nat b.1 b.2] at e; exact absurd e.symm Ob.nat_ne
    · rw [oc_sym a, oc_sym b] at e
      have e' := wdC_inj ((hI.2.1 j j0 j1).2 a).2 ((hI.2.1 k k0 k1).2 b).2 (Ob.sym.inj e (wdC_ok _) (wdC_ok _))
      exact same (by omega)
theorem CIc.inj [DecidableEq Ob] {u : iST} (hI : CIc u) {j k : Int} (j0 : 0 ≤ j) (j1 : j < u.1 29) (k0 : 0 ≤ k) (k1 : k < u.1 29) : oc u j = oc u k ↔ j = k := ⟨oc_inj hI _ j k (Nat.lt_succ_self _) j0 j1 k0 k1, fun h => h ▸ rfl⟩
/-- nodes are added -/
def CE [DecidableEq Ob] (u v : iST) : Prop := u.1 29 ≤ v.1 29 ∧ ∀ k, 0 ≤ k → k < u.1 29 → v.2.2 k = u.2.2 k
theorem CE.rf [DecidableEq Ob] (u : iST) : CE u u := ⟨Int.le_refl _, fun _ _ _ => rfl⟩
theorem CE.tr [DecidableEq Ob] {u v w : iST} (h : CE u v) (g : CE v w) : CE u w := ⟨Int.le_trans h.1 g.1, fun k k0 k1 => (g.2 k k0 (by have := h.1; omega)).trans (h.2 k k0 k1)⟩
theorem CE.ocF [DecidableEq Ob] {u v : iST} (h : CE u v) (hI : CIc u) : ∀ (n : Nat) (k : Int), 0 ≤ k → k < u.1 29 → ocF n v k = ocF n u k
  | 0, _, _, _ => rfl
  | n + 1, k, k0, k1 => by
    show (if v.2.2 k < 0 then _ else _) = (if u.2.2 k < 0 then _ else _)
    rw [h.2 k k0 k1]
    by_cases c : u.2.2 k < 0
    · rw [if_pos c, if_pos c]
      obtain ⟨a, b, _⟩ := (hI.2.1 k k0 k1).1 c
      have l0 := cL_r (u.2.2 k)
      have r0 := cR_r (u.2.2 k)
      rw [CE.ocF h hI n _ l0.1 (by omega), CE.ocF h hI n _ r0.1 (by omega)]
    · rw [if_neg c, if_neg c]
theorem CE.oc [DecidableEq Ob] {u v : iST} (h : CE u v) (hI : CIc u) {k : Int} (k0 : 0 ≤ k) (k1 : k < u.1 29) : oc v k = oc u k := h.ocF hI _ k k0 k1
theorem ocF_same [DecidableEq Ob] {u v : iST} (h : v.2.2 = u.2.2) : ∀ (n : Nat) (k : Int), ocF n v k = ocF n u k
  | 0, _ => rfl
  | n + 1, k => by
    show (if v.2.2 k < 0 then _ else _) = (if u.2.2 k < 0 then _ else _)
    rw [h, ocF_same h n, ocF_same h n]
theorem oc_same [DecidableEq Ob] {u v : iST} (h : v.2.2 = u.2.2) (k : Int) : oc v k = oc u k := ocF_same h _ k
/-- the chains of the room are whole -/
def CH [DecidableEq Ob] (u : iST) : Prop := (∀ j, 0 ≤ j → j < u.1 29 → -1 ≤ u.2.1 27 j ∧ u.2.1 27 j < j ∧ (u.2.1 27 j = -1 ∨ cSl (u.2.2 (u.2.1 27 j)) = cSl (u.2.2 j)) ∧ ∀ i, 0 ≤ i → i < j → cSl (u.2.2 i) = cSl (u.2.2 j) → i ≤ u.2.1 27 j) ∧ ∀ h, 0 ≤ h → h < 32768 → -1 ≤ u.2.1 30 h ∧ u.2.1 30 h < u.1 29 ∧ (u.2.1 30 h = -1 ∨ cSl (u.2.2 (u.2.1 30 h)) = h) ∧ ∀ i, 0 ≤ i → i < u.1 29 → cSl (u.2.2 i) = h → i ≤ u.2.1 30 h
def capM [DecidableEq Ob] (x : Int) : Int := if x < 1000000 then x else 1000000
/-- sums and heights as they are; the known names -/
def CS [DecidableEq Ob] (u : iST) : Prop := (∀ k, 0 ≤ k → k < u.1 29 → u.2.1 29 k = (oc u k).hgt ∧ u.2.1 28 k = capM (Ob.szM true (oc u k))) ∧ ∀ i : Nat, i < 44 → some (oc u (i : Int)) = Ob.knownC[i]?
def CT [DecidableEq Ob] (u : iST) : Prop := CIc u ∧ CH u ∧ CS u
theorem knC [DecidableEq Ob] {u : iST} (h : CT u) (c : Int) {o : Ob} (h0 : 0 ≤ c) (h4 : c < 44) (ho : Ob.knownC[c.toNat]? = some o) : 0 ≤ c ∧ c < u.1 29 ∧ oc u c = o := by
  have h1 := h.2.2.2 c.toNat (by omega)
  rw [ho, show ((c.toNat : Nat) : Int) = c by omega] at h1
  exact ⟨h0, by have := h.1.1.1; omega, Option.some.inj h1⟩
theorem katC [DecidableEq Ob] {u : iST} (h : CT u) (c : Int) {o : Ob} (h0 : 0 ≤ c) (h4 : c < 44) (ho : Ob.knownC[c.toNat]? = some o) {k : Int} (k0 : 0 ≤ k) (k1 : k < u.1 29) : k = c ↔ oc u k = o := by
  obtain ⟨_, a, b⟩ := knC h c h0 h4 ho
  rw [← b]
  exact (h.1.inj k0 k1 h0 a).symm
