/-! pairs of a variable and a term -/
def PairOk (u : iST) (p : Int) : Prop := IsL u p 2 ∧ u.2.1 0 (u.2.1 0 p) = -2 ∧ tS u (el u p 1) ≤ 120
def PairsOk (u : iST) (l : Int) (n : Nat) : Prop := IsL u l n ∧ (∀ i, i < n → PairOk u (el u l i)) ∧ ∀ i j, i < j → j < n → u.2.1 0 (el u l i) ≠ u.2.1 0 (el u l j)
theorem PairOk.r {u : iST} (hT : TI u) {p : Int} (h : PairOk u p) : 0 ≤ p ∧ p < u.1 8 ∧ 0 ≤ u.2.1 0 p ∧ u.2.1 0 p < u.1 8 ∧ 0 ≤ el u p 1 ∧ el u p 1 < u.1 8 := by
  have hl := h.1
  have e := IsL.elr hT hl 1 (by omega)
  have pr := hT.pair hl.1 hl.2.1 hl.2.2.1
  exact ⟨hl.1, hl.2.1, hl.2.2.1, by have := hl.2.1; omega, e.1, e.2⟩
theorem PairOk.ext {u v : iST} (hT : TI u) (hV : TI v) (h : ExtT u v) {p : Int} (hp : PairOk u p) : PairOk v p := by
  obtain ⟨r0, r1, r2, r3, r4, r5⟩ := hp.r hT
  obtain ⟨a, b, c⟩ := hp
  have e := h.1.2.1 p r0 r1
  have e2 := h.1.2.1 _ r2 r3
  refine ⟨a.ext hT h.1, by rw [e.1, e2.1]; exact b, ?_⟩
  rw [el_ext h.1 a 1 (by omega), (t_good hT hV h r4 r5).1 (by omega)]
  exact c
theorem PairsOk.ext {u v : iST} (hT : TI u) (hV : TI v) (h : ExtT u v) {l : Int} {n : Nat} (hp : PairsOk u l n) : PairsOk v l n := by
  obtain ⟨a, b, c⟩ := hp
  refine ⟨a.ext hT h.1, fun i hi => by rw [el_ext h.1 a i hi]; exact (b i hi).ext hT hV h, fun i j hij hj => ?_⟩
  have r1 := (b i (by omega)).r hT
  have r2 := (b j hj).r hT
  rw [el_ext h.1 a i (by omega), el_ext h.1 a j hj, (h.1.2.1 _ r1.1 r1.2.1).1, (h.1.2.1 _ r2.1 r2.2.1).1]
  exact c i j hij hj
/-- at most one pair is a quotation: the others have four words -/
theorem PairsOk.words {u : iST} (hT : TI u) : ∀ {n : Nat} {l : Int}, PairsOk u l n → 4 * (n : Int) ≤ wB u l + 2 ∧ ((∀ i, i < n → u.2.1 0 (el u l i) ≠ 2) → 4 * (n : Int) ≤ wB u l)
  | 0, l, h => by
    have h0 : l = 0 := h.1
    rw [h0, wB_nil hT]
    exact ⟨by omega, fun _ => by omega⟩
  | n + 1, l, h => by
    obtain ⟨a, b, c⟩ := h
    have hl := a
    obtain ⟨l0, l1, l2, l3⟩ := a
    have rest : PairsOk u (u.2.1 1 l) n := ⟨l3, fun i hi => b (i + 1) (by omega), fun i j hij hj => c (i + 1) (j + 1) (by omega) (by omega)⟩
    obtain ⟨w1, w2⟩ := PairsOk.words hT rest
    have hp := b 0 (by omega)
    have hp : PairOk u (u.2.1 0 l) := hp
    have r := hp.r hT
    have e1 := wB_pair hT l0 l1 l2
    have hp1 := wB_pair hT r.1 r.2.1 r.2.2.1
    have l4 := hp.1.2.2.2
    have e3 := wB_pair hT l4.1 l4.2.1 l4.2.2.1
    have pp := w_pos hT r.2.2.1 r.2.2.2.1
    have pr := hT.pair l4.1 l4.2.1 l4.2.2.1
    have pq := w_pos hT l4.2.2.1 (show u.2.1 0 (u.2.1 1 (u.2.1 0 l)) < u.1 8 by have := l4.2.1; omega)
    have e0 : u.2.1 1 (u.2.1 1 (u.2.1 0 l)) = 0 := l4.2.2.2
    rw [e0, wB_nil hT] at e3
    by_cases hq : u.2.1 0 (u.2.1 0 l) = 2
    · have hno : ∀ i, i < n → u.2.1 0 (el u (u.2.1 1 l) i) ≠ 2 := fun i hi z => c 0 (i + 1) (by omega) (by omega) (hq.trans z.symm)
      have w3 := w2 hno
      have hA := w_pos hT r.1 r.2.1
      have hA2 : 2 ≤ wA u (u.2.1 0 l) := by
        by_cases hQ : Quo u (u.2.1 0 l)
        · have := wA_quo hT r.1 r.2.1 hQ
          omega
        · have := wA_pair r.1 r.2.2.1 hQ
          omega
      exact ⟨by omega, fun z => absurd hq (z 0 (by omega))⟩
    · have hA : wA u (u.2.1 0 l) = 2 + wB u (u.2.1 0 l) := wA_pair r.1 r.2.2.1 (fun z => hq z.2.1)
      exact ⟨by omega, fun z => by have := w2 (fun i hi => z (i + 1) (by omega)); omega⟩
theorem dr_r {u : iST} (hT : TI u) {l : Int} {n i : Nat} (h : IsL u l n) (hi : i ≤ n) : 0 ≤ dr u l i ∧ dr u l i < u.1 8 := (dr_isL h hi).r (by have := hT.1; omega)
theorem dr_nz {u : iST} (hT : TI u) {l : Int} {n i : Nat} (h : IsL u l n) (hi : i ≤ n) : dr u l i = 0 ↔ i = n := by
  have h1 := dr_isL h hi
  constructor
  · intro z
    rw [z] at h1
    have h2 : IsL u 0 0 := rfl
    have := IsL_uniq hT h1 h2
    omega
  · intro z
    subst z
    rw [show i - i = 0 from by omega] at h1
    exact h1
theorem g_arePairs {u : iST} {l : Int} {Q : Int → iST → Prop} (hG : GI u) (l0 : 0 ≤ l) (l1 : l < u.1 8) (hw : wB u l ≤ 1000) (h8 : u.1 8 + wB u l < 451000) (hq : ∀ b v, bz b → GP u v (wB u l) → v.1 61 = u.1 61 → (b ≠ 0 → ∃ n : Nat, PairsOk u l n) → Q b v) : w_arePairs l Q u := by
  have hT := hG.1
  have um := hT.2.1
  have wl := w_pos hT l0 l1
  unfold w_arePairs
  refine s_lengthOf hT l0 l1 (fun _ => br_n (by decide) (zt_0 (hq 0 u (Or.inl rfl) ((GP.rf hG).mono (by omega)) rfl (fun z => absurd rfl z)))) fun n _ hl => br_i (fun _ => ?_) fun z => by omega
  unfold w_arePairs_13
  refine lf2 (B := fun R x1 x2 u => w_arePairs_13b R Q x1 x2 u) (fun x1 x2 v => l = x1 ∧ ∃ i : Nat, x2 = dr u l i ∧ i ≤ n ∧ GP u v (wB u l - wB u (dr u l i)) ∧ v.1 61 = u.1 61 ∧ (∀ j, j < i → PairOk u (el u l j)) ∧ ∀ j j', j < j' → j' < i → u.2.1 0 (el u l j) ≠ u.2.1 0 (el u l j')) (fun _ x2 _ => x2.toNat) ?_ ⟨rfl, 0, rfl, by omega, (GP.rf hG).mono (by show (0 : Int) ≤ wB u l - wB u l; omega), rfl, fun j hj => by omega, fun j j' h1 h2 => by omega⟩
  intro x1 x2 v hI R ih
  obtain ⟨e1, i, rfl, p1, p2, p3, p4, p5⟩ := hI
  subst e1
  have dri := dr_r hT hl p1
  have vT := p2.1
  have vE := p2.2.1
  have v8 := vE.1.1.1
  have v8b := p2.2.2.2.2.2.1
  have wdi := w_pos hT dri.1 dri.2
  have vG := p2.gi hG
  have stop : ∀ z, GP u z (wB u l) → z.1 61 = u.1 61 → zt 0 (Q 0 z) := fun z h1 h2 => zt_0 (hq 0 z (Or.inl rfl) h1 h2 (fun q => absurd rfl q))
  have sv := stop v (p2.mono (by omega)) p3
  unfold w_arePairs_13b
  refine br_i (fun hz => ?_) fun hnz => ?_
  · have ei := (dr_nz hT hl p1).mp hz
    subst ei
    exact zt_1 (hq 1 v (Or.inr rfl) (p2.mono (by omega)) p3 (fun _ => ⟨i, hl, p4, p5⟩))
  · have hi : i < n := by
      have : i ≠ n := fun z => hnz ((dr_nz hT hl p1).mpr z)
      omega
    have hcell := dr_isL hl p1
    rw [show n - i = (n - i - 1) + 1 from by omega] at hcell
    obtain ⟨c0, c1, c2, c3⟩ := hcell
    have cp := hT.pair c0 c1 c2
    have exc := vE.1.2.1 _ c0 c1
    refine bd_i c0 (by omega) (rd_i fun _ => ?_)
    rw [exc.1, ← dr_el]
    have er := IsL.elr hT hl i hi
    have wd := wB_dr hT hl hi
    have wdn := wB_drp hT (i := i + 1) hl (by omega)
    have we := w_pos hT er.1 er.2
    generalize hp : el u l i = p at *
    refine s_lengthOf vT er.1 (by omega) (fun _ => br_y (by decide) sv) fun m _ hm => br_i (fun _ => sv) fun hm2 => ?_
    have em : m = 2 := by omega
    subst em
    have hlp : IsL u p 2 := hm.down hT vE.1 er.1 er.2
    have prp := hT.pair er.1 er.2 hlp.2.2.1
    have exp := vE.1.2.1 _ er.1 er.2
    refine bd_i er.1 (by omega) (rd_i fun _ => ?_)
    rw [exp.1]
    refine s_isVariable hlp.2.2.1 (by omega) fun r _ hr => br_i (fun _ => sv) fun hr1 => ?_
    have hvar := (hr.mp hr1).1
    rw [(vE.1.2.1 _ hlp.2.2.1 (by omega)).1] at hvar
    refine s_nth vT er.1 (by omega) (by decide) (by decide) ?_
    have e1r := IsL.elr hT hlp 1 (by omega)
    rw [show (1 : Int).toNat = 1 from rfl, el_ext vE.1 hlp 1 (by omega)]
    have w1 : wB u p = wA u (u.2.1 0 p) + wB u (u.2.1 1 p) := wB_pair hT er.1 er.2 hlp.2.2.1
    have w2 : wB u (dr u p 1) = wA u (el u p 1) + wB u (dr u p 2) := wB_dr hT (i := 1) hlp (by omega)
    have w2 : wB u (u.2.1 1 p) = wA u (el u p 1) + wB u (dr u p 2) := w2
    have w3 := wB_drp hT (i := 2) hlp (by omega)
    have w4 := w_pos hT hlp.2.2.1 (show u.2.1 0 p < u.1 8 by omega)
    have w5 := w_pos hT e1r.1 e1r.2
    have wv : wA v (el u p 1) = wA u (el u p 1) := (w_ext hT vT vE.1 e1r.1 e1r.2).1
    refine g_termT vG e1r.1 (by omega) (by rw [wv]; omega) (by rw [wv]; omega) fun t w hw2 h61 ht => ?_
    rw [wv] at hw2
    have hu2 := p2.tr hT hw2
    have hu2 : GP u w (wB u l - wB u (dr u l (i + 1))) := hu2.mono (by omega)
    have w61 : w.1 61 = u.1 61 := h61.trans p3
    have sw' := stop w (hu2.mono (by omega)) w61
    refine br_i (fun htn => ?_) fun _ => sw'
    have hts : tS u (el u p 1) ≤ 120 := by
      rcases ht with ⟨z, _⟩ | ⟨_, q1, q2⟩
      · exact absurd z htn
      · have hsame := (t_ext hT vT vE.1 vE.2.2 (fun f m f0 => ?_) e1r.1 e1r.2).1
        · omega
        · have := (SameF.B p2.2.2.1).symm
          exact this.ar
    have hpk : PairOk u p := ⟨hlp, hvar, hts⟩
    have wE := hu2.2.1
    have wT := hu2.1
    unfold w_arePairs_65
    refine lf4 (B := fun R65 x1 x2 x3 x4 u => w_arePairs_65b R R65 Q x1 x2 x3 x4 u) (fun c1 c2 c3 c4 z => l = c1 ∧ dr u l i = c2 ∧ p = c3 ∧ w = z ∧ ∃ j : Nat, c4 = dr u l j ∧ j ≤ i ∧ ∀ j', j' < j → u.2.1 0 (el u l j') ≠ u.2.1 0 p) (fun _ _ _ c4 _ => c4.toNat) ?_ ⟨rfl, rfl, rfl, rfl, 0, rfl, by omega, fun j' hj => by omega⟩
    intro c1' c2' c3' c4' z hI2 R65 ih2
    obtain ⟨s1, s2, s3, s4, j, rfl, s5, s6⟩ := hI2
    subst s1
    subst s2
    subst s3
    subst s4
    have drj := dr_r hT hl (i := j) (by omega)
    have w8 := wE.1.1.1
    unfold w_arePairs_65b
    refine br_i (fun he => bd_i c0 (by omega) (rd_i fun _ => ?_)) fun hne => ?_
    · have ej : j = i := by
        have h1 := dr_isL hl (i := j) (by omega)
        rw [he] at h1
        have := IsL_uniq hT h1 (dr_isL hl p1)
        omega
      subst ej
      rw [(wE.1.2.1 _ c0 c1).2.1, ← dr_next]
      refine ih _ _ _ ⟨rfl, j + 1, rfl, by omega, hu2, w61, fun j' hj' => ?_, fun a b hab hb => ?_⟩ ?_
      · by_cases e : j' < j
        · exact p4 j' e
        · have : j' = j := by omega
          subst this
          rw [hp]; exact hpk
      · by_cases e : b < j
        · exact p5 a b hab e
        · have : b = j := by omega
          subst this
          rw [hp]; exact s6 a hab
      · rw [dr_next]; omega
    · have hj : j < i := by
        have : j ≠ i := fun z => hne (by rw [z])
        omega
      have hcj := dr_isL hl (i := j) (by omega)
      rw [show n - j = (n - j - 1) + 1 from by omega] at hcj
      obtain ⟨d0, d1, d2, d3⟩ := hcj
      have dp := hT.pair d0 d1 d2
      have hpj := (p4 j hj).r hT
      refine bd_i d0 (by omega) (rd_i fun _ => ?_)
      rw [(wE.1.2.1 _ d0 d1).1, ← dr_el]
      refine bd_i hpj.1 (by omega) (rd_i fun _ => ?_)
      rw [(wE.1.2.1 _ hpj.1 hpj.2.1).1]
      refine bd_i er.1 (by omega) (rd_i fun _ => ?_)
      rw [(wE.1.2.1 _ er.1 er.2).1]
      refine br_i (fun hdiff => bd_i d0 (by omega) (rd_i fun _ => ?_)) fun _ => sw'
      rw [(wE.1.2.1 _ d0 d1).2.1, ← dr_next]
      refine ih2 _ _ _ _ _ ⟨rfl, rfl, rfl, rfl, j + 1, rfl, by omega, fun j' hj' => ?_⟩ (by rw [dr_next]; omega)
      by_cases e : j' < j
      · exact s6 j' e
      · have : j' = j := by omega
        subst this
        exact hdiff
