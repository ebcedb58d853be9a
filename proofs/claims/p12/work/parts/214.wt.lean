/-- the rest of a proper list of n has at least n words -/
theorem wB_len {u : iST} (hT : TI u) : ∀ {n : Nat} {l : Int}, IsL u l n → (n : Int) ≤ wB u l
  | 0, l, h => by
    have h : l = 0 := h
    rw [h, wB_nil hT]; omega
  | n + 1, l, ⟨a, b, c, d⟩ => by
    have p := hT.pair a b c
    have := w_pos hT (x := u.2.1 0 l) c (by omega)
    have := wB_len hT d
    rw [wB_pair hT a b c]
    omega
theorem FnOf.fun {u : iST} {f r r' : Int} (h : FnOf u f r) (g : FnOf u f r') : r = r' := by
  rcases h with ⟨a, b, c⟩ | ⟨a, b, c⟩ | ⟨a, b, d, d0, d1, d2, d3, d4⟩ | ⟨a, b, c, d⟩ <;> rcases g with ⟨a', b', c'⟩ | ⟨a', b', c'⟩ | ⟨a', b', e, e0, e1, e2, e3, e4⟩ | ⟨a', b', c', d'⟩ <;> (try omega)
  · rcases Int.lt_trichotomy d e with z | z | z
    · exact absurd d2 (e3 d d0 z)
    · omega
    · exact absurd e2 (d3 e e0 z)
  · exact absurd d2 (c' d d0 d1)
  · exact absurd e2 (c e e0 e1)
theorem Ar.fun {u : iST} {f : Int} {n m : Nat} (h : Ar u f n) (g : Ar u f m) : n = m := by
  obtain ⟨r, h1, _, h3⟩ := h
  obtain ⟨r', g1, _, g3⟩ := g
  have := h1.fun g1
  subst this
  omega
/-! the size of the term that a text is; at least 10000000: it is none -/
def Fits (u : iST) (x : Int) : Prop := u.2.1 0 x ≠ 2 ∧ u.2.1 0 (u.2.1 0 x) = -2 ∧ ∃ n : Nat, n ≤ 6 ∧ Ar u (u.2.1 0 x) n ∧ IsL u (u.2.1 1 x) n
def capT (s : Int) : Int := if 10000000 ≤ s then 10000000 else capS (1 + s)
noncomputable def tt (u : iST) (m : Nat) : Int :=
  if m % 2 = 1 then
    if u.2.1 0 ((m / 2 : Nat) : Int) < 0 then 1
    else @ite Int (Quo u ((m / 2 : Nat) : Int)) (Classical.propDecidable _) 1
      (@ite Int (Fits u ((m / 2 : Nat) : Int)) (Classical.propDecidable _) (if h : (u.2.1 1 ((m / 2 : Nat) : Int)).toNat < m / 2 then capT (tt u (2 * (u.2.1 1 ((m / 2 : Nat) : Int)).toNat)) else 0) 10000000)
  else if u.2.1 0 ((m / 2 : Nat) : Int) < 0 then 0
  else if h : (u.2.1 0 ((m / 2 : Nat) : Int)).toNat < m / 2 ∧ (u.2.1 1 ((m / 2 : Nat) : Int)).toNat < m / 2 then tt u (2 * (u.2.1 0 ((m / 2 : Nat) : Int)).toNat + 1) + tt u (2 * (u.2.1 1 ((m / 2 : Nat) : Int)).toNat) else 0
termination_by m
decreasing_by all_goals omega
noncomputable def tS (u : iST) (x : Int) : Int := tt u (2 * x.toNat + 1)
noncomputable def tL (u : iST) (x : Int) : Int := tt u (2 * x.toNat)
theorem tS_atom {u : iST} {x : Int} (x0 : 0 ≤ x) (h : u.2.1 0 x < 0) : tS u x = 1 := by
  unfold tS
  rw [tt, if_pos (by omega), div_a x x0, if_pos h]
theorem tS_quo {u : iST} {x : Int} (x0 : 0 ≤ x) (h : Quo u x) : tS u x = 1 := by
  unfold tS
  rw [tt, if_pos (by omega), div_a x x0, if_neg (by have := h.1; omega), if_pos h]
theorem tS_call {u : iST} (hT : TI u) {x : Int} (x0 : 0 ≤ x) (x1 : x < u.1 8) (h0 : 0 ≤ u.2.1 0 x) (h : Fits u x) : tS u x = capT (tL u (u.2.1 1 x)) := by
  have p := hT.pair x0 x1 h0
  unfold tS tL
  rw [tt, if_pos (by omega), div_a x x0, if_neg (by omega), if_neg (fun z => h.1 z.2.1), if_pos h, dif_pos (by omega)]
theorem tS_bad {u : iST} {x : Int} (x0 : 0 ≤ x) (h0 : 0 ≤ u.2.1 0 x) (hq : ¬ Quo u x) (h : ¬ Fits u x) : tS u x = 10000000 := by
  unfold tS
  rw [tt, if_pos (by omega), div_a x x0, if_neg (by omega), if_neg hq, if_neg h]
theorem tL_nil {u : iST} {x : Int} (x0 : 0 ≤ x) (h : u.2.1 0 x < 0) : tL u x = 0 := by
  unfold tL
  rw [tt, if_neg (by omega), div_b x x0, if_pos h]
theorem tL_pair {u : iST} (hT : TI u) {x : Int} (x0 : 0 ≤ x) (x1 : x < u.1 8) (h : 0 ≤ u.2.1 0 x) : tL u x = tS u (u.2.1 0 x) + tL u (u.2.1 1 x) := by
  have p1 := hT.pair x0 x1 h
  unfold tS tL
  rw [tt, if_neg (by omega), div_b x x0, if_neg (by omega), dif_pos (by omega)]
theorem capT_r (s : Int) (h : 0 ≤ s) : 1 ≤ capT s ∧ (10000000 ≤ s → capT s = 10000000) := by
  unfold capT capS
  constructor
  · split
    · omega
    · split <;> omega
  · intro z; rw [if_pos z]
theorem t_pos {u : iST} (hT : TI u) {x : Int} (x0 : 0 ≤ x) (x1 : x < u.1 8) : 1 ≤ tS u x ∧ 0 ≤ tL u x := by
  refine w_ind hT (fun x => x < u.1 8 → 1 ≤ tS u x ∧ 0 ≤ tL u x) (fun x x0 x1 ih _ => ?_) x0 x1 x1
  by_cases h : u.2.1 0 x < 0
  · rw [tS_atom x0 h, tL_nil x0 h]; omega
  · have h0 : 0 ≤ u.2.1 0 x := by omega
    have p := hT.pair x0 x1 h0
    have i1 := ih _ h0 p.1 (by omega)
    have i2 := ih _ p.2.1 p.2.2 (by omega)
    refine ⟨?_, by rw [tL_pair hT x0 x1 h0]; omega⟩
    by_cases hq : Quo u x
    · rw [tS_quo x0 hq]; omega
    · by_cases hf : Fits u x
      · rw [tS_call hT x0 x1 h0 hf]; exact (capT_r _ i2.2).1
      · rw [tS_bad x0 h0 hq hf]; omega
theorem IsL.down {u v : iST} (hT : TI u) (hE : Ext u v) : ∀ {n : Nat} {l : Int}, 0 ≤ l → l < u.1 8 → IsL v l n → IsL u l n
  | 0, _, _, _, h => h
  | n + 1, l, l0, l1, ⟨a, b, c, d⟩ => by
    have e := hE.2.1 l l0 l1
    rw [e.1] at c
    rw [e.2.1] at d
    have p := hT.pair l0 l1 c
    exact ⟨a, l1, c, IsL.down hT hE p.2.1 (by omega) d⟩
theorem Fits.ext {u v : iST} (hT : TI u) (hE : Ext u v) (ha : ∀ f n, 0 ≤ f → Ar u f n → Ar v f n) {x : Int} (x0 : 0 ≤ x) (x1 : x < u.1 8) (h0 : 0 ≤ u.2.1 0 x) (h : Fits u x) : Fits v x := by
  have e := hE.2.1 x x0 x1
  have p := hT.pair x0 x1 h0
  have e2 := hE.2.1 _ h0 (show u.2.1 0 x < u.1 8 by omega)
  unfold Fits
  rw [e.1, e.2.1, e2.1]
  obtain ⟨a, b, n, c, d, f⟩ := h
  exact ⟨a, b, n, c, ha _ _ h0 d, f.ext hT hE⟩
theorem Fits.down {u v : iST} (hT : TI u) (hE : Ext u v) (ha : ∀ f n, 0 ≤ f → Ar v f n → Ar u f n) {x : Int} (x0 : 0 ≤ x) (x1 : x < u.1 8) (h0 : 0 ≤ u.2.1 0 x) (h : Fits v x) : Fits u x := by
  have e := hE.2.1 x x0 x1
  have p := hT.pair x0 x1 h0
  have e2 := hE.2.1 _ h0 (show u.2.1 0 x < u.1 8 by omega)
  unfold Fits at h
  rw [e.1, e.2.1, e2.1] at h
  obtain ⟨a, b, n, c, d, f⟩ := h
  exact ⟨a, b, n, c, ha _ _ h0 d, f.down hT hE p.2.1 (by omega)⟩
theorem Quo_ext {u v : iST} (hT : TI u) (hE : Ext u v) {x : Int} (x0 : 0 ≤ x) (x1 : x < u.1 8) : Quo v x ↔ Quo u x := by
  have e := hE.2.1 x x0 x1
  unfold Quo
  rw [e.1, e.2.1]
  by_cases h0 : 0 ≤ u.2.1 0 x
  · have p := hT.pair x0 x1 h0
    have e2 := hE.2.1 _ p.2.1 (show u.2.1 1 x < u.1 8 by omega)
    rw [e2.1, e2.2.1]
  · constructor <;> (intro z; exact absurd z.1 h0)
theorem t_ext {u v : iST} (hT : TI u) (hV : TI v) (hE : Ext u v) (ha : ∀ f n, 0 ≤ f → Ar u f n → Ar v f n) (hd : ∀ f n, 0 ≤ f → Ar v f n → Ar u f n) {x : Int} (x0 : 0 ≤ x) (x1 : x < u.1 8) : tS v x = tS u x ∧ tL v x = tL u x := by
  refine w_ind hT (fun x => x < u.1 8 → tS v x = tS u x ∧ tL v x = tL u x) (fun x x0 x1 ih _ => ?_) x0 x1 x1
  have e := hE.2.1 x x0 x1
  have h8 := hE.1.1
  by_cases h : u.2.1 0 x < 0
  · rw [tS_atom x0 h, tL_nil x0 h, tS_atom x0 (by rw [e.1]; exact h), tL_nil x0 (by rw [e.1]; exact h)]; exact ⟨rfl, rfl⟩
  · have h0 : 0 ≤ u.2.1 0 x := by omega
    have p := hT.pair x0 x1 h0
    have i1 := ih _ h0 p.1 (by omega)
    have i2 := ih _ p.2.1 p.2.2 (by omega)
    have v0 : 0 ≤ v.2.1 0 x := by rw [e.1]; exact h0
    refine ⟨?_, by rw [tL_pair hT x0 x1 h0, tL_pair hV x0 (by omega) v0, e.1, e.2.1, i1.1, i2.2]⟩
    by_cases hq : Quo u x
    · rw [tS_quo x0 hq, tS_quo x0 ((Quo_ext hT hE x0 x1).mpr hq)]
    · have hqv : ¬ Quo v x := fun z => hq ((Quo_ext hT hE x0 x1).mp z)
      by_cases hf : Fits u x
      · rw [tS_call hT x0 x1 h0 hf, tS_call hV x0 (by omega) v0 (hf.ext hT hE ha x0 x1 h0), e.2.1, i2.2]
      · rw [tS_bad x0 h0 hq hf, tS_bad x0 v0 hqv (fun z => hf (z.down hT hE hd x0 x1 h0))]
/-- a text that is a term stays one -/
theorem t_good {u v : iST} (hT : TI u) (hV : TI v) (h : ExtT u v) {x : Int} (x0 : 0 ≤ x) (x1 : x < u.1 8) : (tS u x < 10000000 → tS v x = tS u x) ∧ (tL u x < 10000000 → tL v x = tL u x) := by
  refine w_ind hT (fun x => x < u.1 8 → (tS u x < 10000000 → tS v x = tS u x) ∧ (tL u x < 10000000 → tL v x = tL u x)) (fun x x0 x1 ih _ => ?_) x0 x1 x1
  have hE := h.1
  have e := hE.2.1 x x0 x1
  have h8 := hE.1.1
  by_cases h1 : u.2.1 0 x < 0
  · rw [tS_atom x0 h1, tL_nil x0 h1, tS_atom x0 (by rw [e.1]; exact h1), tL_nil x0 (by rw [e.1]; exact h1)]; exact ⟨fun _ => rfl, fun _ => rfl⟩
  · have h0 : 0 ≤ u.2.1 0 x := by omega
    have p := hT.pair x0 x1 h0
    have i1 := ih _ h0 p.1 (by omega)
    have i2 := ih _ p.2.1 p.2.2 (by omega)
    have c1 := t_pos hT h0 (show u.2.1 0 x < u.1 8 by omega)
    have c2 := t_pos hT p.2.1 (show u.2.1 1 x < u.1 8 by omega)
    have v0 : 0 ≤ v.2.1 0 x := by rw [e.1]; exact h0
    constructor
    · by_cases hq : Quo u x
      · intro _; rw [tS_quo x0 hq, tS_quo x0 ((Quo_ext hT hE x0 x1).mpr hq)]
      · by_cases hf : Fits u x
        · rw [tS_call hT x0 x1 h0 hf, tS_call hV x0 (by omega) v0 (hf.ext hT hE h.2.2 x0 x1 h0), e.2.1]
          intro z
          rw [i2.2 (by
            by_cases hh : tL u (u.2.1 1 x) < 10000000
            · exact hh
            · have := (capT_r _ c2.2).2 (by omega)
              omega)]
        · rw [tS_bad x0 h0 hq hf]; intro z; omega
    · rw [tL_pair hT x0 x1 h0, tL_pair hV x0 (by omega) v0, e.1, e.2.1]
      intro z
      rw [i1.1 (by omega), i2.2 (by omega)]
