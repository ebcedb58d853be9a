/-! how many words an object has as a text: m = 2 x + 1 the object x, m = 2 x the rest of a list from x on -/
def Quo (u : iST) (x : Int) : Prop := 0 ≤ u.2.1 0 x ∧ u.2.1 0 x = 2 ∧ 0 ≤ u.2.1 0 (u.2.1 1 x) ∧ u.2.1 1 (u.2.1 1 x) = 0
def wt (u : iST) (m : Nat) : Int :=
  if m % 2 = 1 then
    if u.2.1 0 ((m / 2 : Nat) : Int) < 0 then 1
    else if u.2.1 0 ((m / 2 : Nat) : Int) = 2 ∧ 0 ≤ u.2.1 0 (u.2.1 1 ((m / 2 : Nat) : Int)) ∧ u.2.1 1 (u.2.1 1 ((m / 2 : Nat) : Int)) = 0 then
      if h : (u.2.1 0 (u.2.1 1 ((m / 2 : Nat) : Int))).toNat < m / 2 then 1 + wt u (2 * (u.2.1 0 (u.2.1 1 ((m / 2 : Nat) : Int))).toNat + 1) else 0
    else if h : 0 < m then 2 + wt u (m - 1) else 0
  else if u.2.1 0 ((m / 2 : Nat) : Int) < 0 then (if m = 0 then 0 else 1)
  else if h : (u.2.1 0 ((m / 2 : Nat) : Int)).toNat < m / 2 ∧ (u.2.1 1 ((m / 2 : Nat) : Int)).toNat < m / 2 then wt u (2 * (u.2.1 0 ((m / 2 : Nat) : Int)).toNat + 1) + wt u (2 * (u.2.1 1 ((m / 2 : Nat) : Int)).toNat) else 0
termination_by m
decreasing_by all_goals omega
def wA (u : iST) (x : Int) : Int := wt u (2 * x.toNat + 1)
def wB (u : iST) (x : Int) : Int := wt u (2 * x.toNat)
theorem div_a (x : Int) (h : 0 ≤ x) : (((2 * x.toNat + 1) / 2 : Nat) : Int) = x := by omega
theorem div_b (x : Int) (h : 0 ≤ x) : (((2 * x.toNat) / 2 : Nat) : Int) = x := by omega
theorem wA_atom {u : iST} {x : Int} (x0 : 0 ≤ x) (h : u.2.1 0 x < 0) : wA u x = 1 := by
  unfold wA
  rw [wt, if_pos (by omega), div_a x x0, if_pos h]
theorem wA_quo {u : iST} (hT : TI u) {x : Int} (x0 : 0 ≤ x) (x1 : x < u.1 8) (h : Quo u x) : wA u x = 1 + wA u (u.2.1 0 (u.2.1 1 x)) := by
  have p1 := hT.pair x0 x1 h.1
  have p2 := hT.pair p1.2.1 (by omega) h.2.2.1
  have q := h.2.2.1
  unfold wA
  rw [wt, if_pos (by omega), div_a x x0, if_neg (by have := h.1; omega), if_pos ⟨h.2.1, h.2.2.1, h.2.2.2⟩, dif_pos (by omega)]
theorem wA_pair {u : iST} {x : Int} (x0 : 0 ≤ x) (h0 : 0 ≤ u.2.1 0 x) (h : ¬ Quo u x) : wA u x = 2 + wB u x := by
  unfold wA wB
  rw [wt, if_pos (by omega), div_a x x0, if_neg (by omega), if_neg (fun z => h ⟨h0, z.1, z.2.1, z.2.2⟩), dif_pos (by omega), show 2 * x.toNat + 1 - 1 = 2 * x.toNat from by omega]
theorem wB_nil {u : iST} (hT : TI u) : wB u 0 = 0 := by
  have h9 := hT.2.2.2.2.2.2.2.2.1 0 (by decide) (by decide)
  unfold wB
  rw [wt, if_neg (by decide), if_pos (by show u.2.1 0 0 < 0; omega)]
  rfl
theorem wB_atom {u : iST} {x : Int} (x0 : 0 < x) (h : u.2.1 0 x < 0) : wB u x = 1 := by
  unfold wB
  rw [wt, if_neg (by omega), div_b x (by omega), if_pos h, if_neg (by omega)]
theorem wB_pair {u : iST} (hT : TI u) {x : Int} (x0 : 0 ≤ x) (x1 : x < u.1 8) (h : 0 ≤ u.2.1 0 x) : wB u x = wA u (u.2.1 0 x) + wB u (u.2.1 1 x) := by
  have p1 := hT.pair x0 x1 h
  unfold wA wB
  rw [wt, if_neg (by omega), div_b x x0, if_neg (by omega), dif_pos (by omega)]
theorem w_ind {u : iST} (hT : TI u) (P : Int → Prop) (h : ∀ x, 0 ≤ x → x < u.1 8 → (∀ y, 0 ≤ y → y < x → P y) → P x) {x : Int} (x0 : 0 ≤ x) (x1 : x < u.1 8) : P x := by
  have key : ∀ (n : Nat) (x : Int), 0 ≤ x → x < u.1 8 → x < n → P x := by
    intro n
    induction n with
    | zero => intro x _ _ h; omega
    | succ n ih => intro x a b c; exact h x a b (fun y y0 y1 => ih y y0 (by omega) (by omega))
  exact key (x.toNat + 1) x x0 x1 (by omega)
theorem w_pos {u : iST} (hT : TI u) {x : Int} (x0 : 0 ≤ x) (x1 : x < u.1 8) : 1 ≤ wA u x ∧ 0 ≤ wB u x ∧ wB u x ≤ wA u x := by
  refine w_ind hT (fun x => 1 ≤ wA u x ∧ 0 ≤ wB u x ∧ wB u x ≤ wA u x) (fun x x0 x1 ih => ?_) x0 x1
  by_cases h : u.2.1 0 x < 0
  · rw [wA_atom x0 h]
    by_cases e : x = 0
    · rw [e, wB_nil hT]; omega
    · rw [wB_atom (by omega) h]; omega
  · have p := hT.pair x0 x1 (by omega)
    have i1 := ih (u.2.1 0 x) (by omega) p.1
    have i2 := ih (u.2.1 1 x) p.2.1 p.2.2
    have eb := wB_pair hT x0 x1 (by omega)
    by_cases hq : Quo u x
    · have p2 := hT.pair p.2.1 (by omega) hq.2.2.1
      have i3 := ih (u.2.1 0 (u.2.1 1 x)) hq.2.2.1 (by omega)
      have ea := wA_quo hT x0 x1 hq
      have eb2 := wB_pair hT p.2.1 (by omega) hq.2.2.1
      rw [hq.2.2.2, wB_nil hT] at eb2
      have e2 : wA u (u.2.1 0 x) = 1 := by
        rw [hq.2.1]
        have h9 := hT.2.2.2.2.2.2.2.2.1 2 (by decide) (by decide)
        exact wA_atom (by decide) (by omega)
      omega
    · have ea := wA_pair x0 (by omega) hq
      omega
theorem w_ext {u v : iST} (hT : TI u) (hV : TI v) (hE : Ext u v) {x : Int} (x0 : 0 ≤ x) (x1 : x < u.1 8) : wA v x = wA u x ∧ wB v x = wB u x := by
  have e8 := hE.1.1
  refine w_ind hT (fun x => wA v x = wA u x ∧ wB v x = wB u x) (fun x x0 x1 ih => ?_) x0 x1
  have ex := hE.2.1 x x0 x1
  by_cases h : u.2.1 0 x < 0
  · rw [wA_atom x0 h, wA_atom x0 (by rw [ex.1]; exact h)]
    by_cases e : x = 0
    · rw [e, wB_nil hT, wB_nil hV]; exact ⟨rfl, rfl⟩
    · rw [wB_atom (by omega) h, wB_atom (by omega) (by rw [ex.1]; exact h)]; exact ⟨rfl, rfl⟩
  · have p := hT.pair x0 x1 (by omega)
    have i1 := ih (u.2.1 0 x) (by omega) p.1
    have i2 := ih (u.2.1 1 x) p.2.1 p.2.2
    have eb := wB_pair hT x0 x1 (by omega)
    have eb' := wB_pair hV x0 (by omega) (by rw [ex.1]; omega)
    rw [ex.1, ex.2.1, i1.1, i2.2, ← eb] at eb'
    refine ⟨?_, eb'⟩
    have exr := hE.2.1 _ p.2.1 (show u.2.1 1 x < u.1 8 by omega)
    by_cases hq : Quo u x
    · have hq' : Quo v x := by
        unfold Quo at hq ⊢
        rw [ex.1, ex.2.1, exr.1, exr.2.1]
        exact hq
      have p2 := hT.pair p.2.1 (by omega) hq.2.2.1
      have i3 := ih (u.2.1 0 (u.2.1 1 x)) hq.2.2.1 (by omega)
      rw [wA_quo hT x0 x1 hq, wA_quo hV x0 (by omega) hq', ex.2.1, exr.1, i3.1]
    · have hq' : ¬ Quo v x := by
        unfold Quo at hq ⊢
        rw [ex.1, ex.2.1, exr.1, exr.2.1]
        exact hq
      rw [wA_pair x0 (by omega) hq, wA_pair x0 (by rw [ex.1]; omega) hq', eb']
theorem wA_le {u : iST} (hT : TI u) {x : Int} (x0 : 0 ≤ x) (x1 : x < u.1 8) : wA u x ≤ 2 + wB u x := by
  by_cases h : u.2.1 0 x < 0
  · have := (w_pos hT x0 x1).2.1
    rw [wA_atom x0 h]; omega
  · have p := hT.pair x0 x1 (by omega)
    by_cases hq : Quo u x
    · have p2 := hT.pair p.2.1 (by omega) hq.2.2.1
      have ea := wA_quo hT x0 x1 hq
      have eb := wB_pair hT x0 x1 (by omega)
      have eb2 := wB_pair hT p.2.1 (by omega) hq.2.2.1
      rw [hq.2.2.2, wB_nil hT] at eb2
      have e2 := (w_pos hT (x := u.2.1 0 x) (by omega) (by omega)).1
      omega
    · have ea := wA_pair x0 (by omega) hq
      omega
