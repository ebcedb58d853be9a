-- deps: 408 433
-- base: P111
/-! the reference: what an object of its table is -/
def lts (u : iST) (s : Int) : List Int := (List.range (u.2.1 10 s).toNat).map (fun i : Nat => u.2.1 9 (12 * s + (i : Int)))
def obF [DecidableEq Ob] : Nat → iST → Int → Ob
  | 0, _, _ => Ob.nil
  | n + 1, u, k => if u.2.1 0 k = -1 then .nat (u.2.2 (u.2.1 1 k)) else if u.2.1 0 k = -2 then .sym (lts u (u.2.1 1 k)) else .pr (obF n u (u.2.1 0 k)) (obF n u (u.2.1 1 k))
def ob [DecidableEq Ob] (u : iST) (k : Int) : Ob := obF (k.toNat + 1) u k
theorem obF_s [DecidableEq Ob] {u : iST} (hT : TI u) : ∀ (n : Nat) (k : Int), 0 ≤ k → k < u.1 8 → k.toNat < n → obF n u k = ob u k
  | 0, k, _, _, h => by omega
  | n + 1, k, k0, k1, h => by
    unfold ob
    show (if u.2.1 0 k = -1 then _ else _) = (if u.2.1 0 k = -1 then _ else _)
    by_cases c1 : u.2.1 0 k = -1
    · rw [if_pos c1, if_pos c1]
    · rw [if_neg c1, if_neg c1]
      by_cases c2 : u.2.1 0 k = -2
      · rw [if_pos c2, if_pos c2]
      · rw [if_neg c2, if_neg c2]
        have hk := hT.kind k0 k1
        unfold KindOk at hk
        have hp := hT.pair k0 k1 (by omega)
        have l0 : 0 ≤ u.2.1 0 k := by omega
        rw [obF_s hT n _ l0 (by omega) (by omega), obF_s hT n _ hp.2.1 (by omega) (by omega), obF_s hT k.toNat _ l0 (by omega) (by omega), obF_s hT k.toNat _ hp.2.1 (by omega) (by omega)]
theorem ob_nat [DecidableEq Ob] {u : iST} {k : Int} (h : u.2.1 0 k = -1) : ob u k = .nat (u.2.2 (u.2.1 1 k)) := by
  unfold ob; exact if_pos h
theorem ob_sym [DecidableEq Ob] {u : iST} {k : Int} (h : u.2.1 0 k = -2) : ob u k = .sym (lts u (u.2.1 1 k)) := by
  unfold ob; exact (if_neg (by omega)).trans (if_pos h)
theorem ob_pr [DecidableEq Ob] {u : iST} (hT : TI u) {k : Int} (k0 : 0 ≤ k) (k1 : k < u.1 8) (h : 0 ≤ u.2.1 0 k) : ob u k = .pr (ob u (u.2.1 0 k)) (ob u (u.2.1 1 k)) := by
  have hp := hT.pair k0 k1 h
  refine ((if_neg (by omega)).trans (if_neg (by omega)) : obF (k.toNat + 1) u k = .pr (obF k.toNat u (u.2.1 0 k)) (obF k.toNat u (u.2.1 1 k))).trans ?_
  rw [obF_s hT _ _ h (by omega) (by omega), obF_s hT _ _ hp.2.1 (by omega) (by omega)]
theorem TI.cases [DecidableEq Ob] {u : iST} (hT : TI u) {k : Int} (k0 : 0 ≤ k) (k1 : k < u.1 8) : u.2.1 0 k = -1 ∨ u.2.1 0 k = -2 ∨ 0 ≤ u.2.1 0 k := by
  have hk := hT.kind k0 k1
  unfold KindOk at hk
  omega
/-- no two objects alike, heights and SIZES as they are, the known symbols -/
def TU [DecidableEq Ob] (u : iST) : Prop := (∀ j k, 0 ≤ j → j < u.1 8 → 0 ≤ k → k < u.1 8 → u.2.1 0 j = -1 → u.2.1 0 k = -1 → u.2.2 (u.2.1 1 j) = u.2.2 (u.2.1 1 k) → j = k) ∧ (∀ j k, 0 ≤ j → j < u.1 8 → 0 ≤ k → k < u.1 8 → u.2.1 0 j = -2 → u.2.1 0 k = -2 → lts u (u.2.1 1 j) = lts u (u.2.1 1 k) → j = k) ∧ (∀ k, 0 ≤ k → k < u.1 8 → u.2.1 4 k = (ob u k).hgt ∧ (u.2.1 3 k = 0 ∨ u.2.1 3 k = if 30000 < (ob u k).sz then 30000 else (ob u k).sz)) ∧ (∀ i : Nat, i < 44 → some (ob u (i : Int)) = Ob.known[i]?) ∧ ∀ k, 0 ≤ k → k < u.1 8 → u.2.1 0 k = -2 → Ob.okw (lts u (u.2.1 1 k))
theorem ob_inj [DecidableEq Ob] {u : iST} (hT : TI u) (hU : TU u) : ∀ (n : Nat) (j k : Int), j.toNat < n → 0 ≤ j → j < u.1 8 → 0 ≤ k → k < u.1 8 → ob u j = ob u k → j = k
  | 0, j, k, h, _, _, _, _, _ => by omega
  | n + 1, j, k, hn, j0, j1, k0, k1, e => by
    rcases hT.cases j0 j1 with a | a | a <;> rcases hT.cases k0 k1 with b | b | b
    · rw [ob_nat a, ob_nat b] at e; exact hU.1 j k j0 j1 k0 k1 a b (Ob.nat.inj e (hT.nat j0 j1 a).2.2.2.1 (hT.nat k0 k1 b).2.2.2.1)
    · rw [ob_nat a, ob_sym b] at e; exact absurd e Ob.nat_ne
    · rw [ob_nat a, ob_pr hT k0 k1 b] at e; cases e
    · rw [ob_sym a, ob_nat b] at e; exact absurd e.symm Ob.nat_ne
    · rw [ob_sym a, ob_sym b] at e; exact hU.2.1 j k j0 j1 k0 k1 a b (Ob.sym.inj e (hU.2.2.2.2 j j0 j1 a) (hU.2.2.2.2 k k0 k1 b))
    · rw [ob_sym a, ob_pr hT k0 k1 b] at e; cases e
    · rw [ob_pr hT j0 j1 a, ob_nat b] at e; cases e
    · rw [ob_pr hT j0 j1 a, ob_sym b] at e; cases e
    · rw [ob_pr hT j0 j1 a, ob_pr hT k0 k1 b] at e
      have e' := Ob.pr.inj e
      have hj := hT.pair j0 j1 a
      have hk := hT.pair k0 k1 b
      have e1 := ob_inj hT hU n _ _ (by omega) a (by omega) b (by omega) e'.1
      have e2 := ob_inj hT hU n _ _ (by omega) hj.2.1 (by omega) hk.2.1 (by omega) e'.2
      have hu := hT.2.2.2.2.2.2.2.2.2
      rcases Int.lt_trichotomy j k with c | c | c
      · exact absurd e2.symm (hu j k j0 c k1 a e1.symm)
      · exact c
      · exact absurd e2 (hu k j k0 c j1 b e1)
theorem TI.inj [DecidableEq Ob] {u : iST} (hT : TI u) (hU : TU u) {j k : Int} (j0 : 0 ≤ j) (j1 : j < u.1 8) (k0 : 0 ≤ k) (k1 : k < u.1 8) : ob u j = ob u k ↔ j = k := ⟨ob_inj hT hU _ j k (Nat.lt_succ_self _) j0 j1 k0 k1, fun h => h ▸ rfl⟩
theorem lts_ext [DecidableEq Ob] {u v : iST} (hE : Ext u v) {s : Int} (s0 : 0 ≤ s) (s1 : s < u.1 11) (h12 : u.2.1 10 s ≤ 12) : lts v s = lts u s := by
  unfold lts
  rw [hE.2.2.2.1 s s0 s1]
  refine List.map_congr_left (fun i hi => ?_)
  have := List.mem_range.mp hi
  exact hE.2.2.2.2 _ (by omega) (by omega)
theorem ob_ext [DecidableEq Ob] {u v : iST} (hT : TI u) (hV : TI v) (hE : Ext u v) : ∀ (n : Nat) (k : Int), k.toNat < n → 0 ≤ k → k < u.1 8 → ob v k = ob u k
  | 0, k, h, _, _ => by omega
  | n + 1, k, hn, k0, k1 => by
    have e := hE.2.1 k k0 k1
    have hg := hE.1.1
    rcases hT.cases k0 k1 with a | a | a
    · rw [ob_nat a, ob_nat (e.1.trans a), e.2.1]
      have := hT.nat k0 k1 a
      rw [hE.2.2.1 _ this.1 this.2.1]
    · rw [ob_sym a, ob_sym (e.1.trans a), e.2.1]
      have := hT.sym k0 k1 a
      rw [lts_ext hE this.1 this.2.1 (by omega)]
    · have hp := hT.pair k0 k1 a
      rw [ob_pr hT k0 k1 a, ob_pr hV k0 (by omega) (by rw [e.1]; exact a), e.1, e.2.1, ob_ext hT hV hE n _ (by omega) a (by omega), ob_ext hT hV hE n _ (by omega) hp.2.1 (by omega)]
theorem Ext.ob [DecidableEq Ob] {u v : iST} (hE : Ext u v) (hT : TI u) (hV : TI v) {k : Int} (k0 : 0 ≤ k) (k1 : k < u.1 8) : ob v k = ob u k := ob_ext hT hV hE _ k (Nat.lt_succ_self _) k0 k1
