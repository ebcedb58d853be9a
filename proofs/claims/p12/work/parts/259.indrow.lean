/-! the row of an induction -/
theorem g_takeParameters {v : iST} {d l : Int} {N : Nat} {Q : iST → Prop} (hT : TI v) (d0 : 0 ≤ d) (d1 : d < 40) (h37 : v.2.1 37 d = N) (hN : N ≤ 6) (hl : IsL v l N) (hv : ∀ i, i < N → v.2.1 0 (el v l i) = -2) (hq : ∀ w, Fx fY v w → w.2.2 = v.2.2 → SubOk w → Q w) : w_takeParameters d l Q v := by
  have hm := hT.2.1
  have lr := hl.r (by have := hT.1; omega)
  unfold w_takeParameters
  refine bd_i d0 d1 (rd_i fun _ => sw_i ?_)
  rw [h37]
  unfold w_takeParameters_12
  refine lf3 (B := fun R x1 x2 x3 u => w_takeParameters_12b R Q x1 x2 x3 u) (fun c1 c2 c3 z => d = c1 ∧ l = c2 ∧ 0 ≤ c3 ∧ c3 ≤ N ∧ Fx fY v z ∧ z.2.2 = v.2.2 ∧ z.1 74 = N ∧ ∀ i, 0 ≤ i → i < c3 → IsT z (z.2.1 73 i)) (fun _ _ c3 _ => (N - c3).toNat) ?_ ⟨rfl, rfl, Int.le_refl _, by omega, Fx_I (k := 74) rfl, rfl, rfl, fun i i0 i1 => by omega⟩
  intro c1 c2 c3 z hI R ih
  obtain ⟨q1, q2, q3, q4, q5, q6, q7, q8⟩ := hI
  subst q1
  subst q2
  have t : ∀ k, k ≤ 11 → z.1 k = v.1 k ∧ z.2.1 k = v.2.1 k := fun k hk => q5 k (by simp [fY]; omega)
  have zT : TI z := TI_eq hT t q6
  unfold w_takeParameters_12b
  refine rd_i fun _ => br_i (fun hge => hq z q5 q6 ⟨by omega, by omega, fun i i0 i1 => q8 i i0 (by omega)⟩) fun hlt => ov_i (by omega) (by omega) (ov_i (by omega) (by omega) (bd_i (by omega) (by omega) (rd_i fun _ => bd_i q3 (by omega) (sw_i ?_))))
  have t1 : ∀ k, k ≤ 11 → (iA z 72 c3 (z.2.1 38 (6 * d + c3))).1 k = v.1 k ∧ (iA z 72 c3 (z.2.1 38 (6 * d + c3))).2.1 k = v.2.1 k := fun k hk => ⟨(t k hk).1, (iA_other (by omega)).trans (t k hk).2⟩
  refine s_nth (TI_eq hT t1 q6) lr.1 (by rw [(t1 8 (by decide)).1]; exact lr.2) q3 (by omega) ?_
  rw [el_t t1]
  refine bd_i q3 (by omega) (sw_i (ov_i (by omega) (by omega) ?_))
  have er := IsL.elr hT hl c3.toNat (by omega)
  have hsym := hv c3.toNat (by omega)
  generalize el v l c3.toNat = x at *
  generalize hy : iA (iA z 72 c3 (z.2.1 38 (6 * d + c3))) 73 c3 x = y
  have yF : Fx fY z y := by rw [← hy]; exact (Fx_A (k := 72) rfl).tr (Fx_A (k := 73) rfl)
  have yL : y.2.2 = z.2.2 := by rw [← hy]; rfl
  have y73 : ∀ j, y.2.1 73 j = if j = c3 then x else z.2.1 73 j := fun j => by rw [← hy]; rfl
  have y74 : y.1 74 = z.1 74 := by rw [← hy]; rfl
  clear hy
  have ty : ∀ k, k ≤ 11 → y.1 k = z.1 k ∧ y.2.1 k = z.2.1 k := fun k hk => yF k (by simp [fY]; omega)
  have yE : ExtT z y := ExtT.same ty yL (SameF.of yF rfl rfl rfl rfl rfl)
  refine ih _ _ _ _ ⟨rfl, rfl, by omega, by omega, q5.tr yF, yL.trans q6, y74.trans q7, fun i i0 i1 => ?_⟩ (by omega)
  rw [y73]
  split
  · refine IsT.mk ⟨er.1, by rw [(ty 8 (by decide)).1, (t 8 (by decide)).1]; exact er.2, Or.inl ?_⟩
    rw [(ty 0 (by decide)).2, (t 0 (by decide)).2, hsym]
    decide
  · exact (q8 i i0 (by omega)).ext zT yE
/-- a row is being drafted -/
def IR (u : iST) (b E : Int) (a : iST) (c e k : Int) : Prop := Ly u a c 0 ∧ DR a ∧ a.1 122 ≤ u.1 122 + k ∧ DNi b a (E + e) ∧ a.1 126 = u.1 126 ∧ a.2.1 123 = u.2.1 123 ∧ a.2.1 124 = u.2.1 124 ∧ a.2.1 125 = u.2.1 125 ∧ a.1 60 = u.1 60 ∧ a.1 117 = u.1 117
theorem IR.mono {u a : iST} {b E c e k c' e' k' : Int} (h : IR u b E a c e k) (hc : c ≤ c') (he : e ≤ e') (hk : k ≤ k') : IR u b E a c' e' k' := ⟨h.1.mono hc (Int.le_refl _), h.2.1, by have := h.2.2.1; omega, h.2.2.2.1.mono (by omega), h.2.2.2.2⟩
theorem IR.fz {u a w : iST} {b E c e k : Int} (hu : TI u) (h : IR u b E a c e k) (hF : Fx fZ2 a w) (hL : w.2.2 = a.2.2) : IR u b E w c e k ∧ ExtT a w := by
  obtain ⟨h1, h2, h3, h4, h5, h6, h7, h8, h9, h10⟩ := h
  obtain ⟨l1, l2⟩ := h1.fz hu (hF.mono fZ2_Z) hL
  have hT := h1.1.1.1
  refine ⟨⟨l1, h2.fz hT l2 (hF.mono fZ2_Z), by rw [fx_s hF 122 rfl]; exact h3, ?_, by rw [fx_s hF 126 rfl]; exact h5, by rw [fx_a hF 123 rfl]; exact h6, by rw [fx_a hF 124 rfl]; exact h7, by rw [fx_a hF 125 rfl]; exact h8, by rw [fx_s hF 60 rfl]; exact h9, by rw [fx_s hF 117 rfl]; exact h10⟩, l2⟩
  exact (h4.keep (c := 0) hT l2 h2 (fx_s hF 122 rfl) (fx_a hF 121 rfl) (fun z => by rw [fx_s hF 61 rfl] at z; exact z) (by rw [fx_s hF 8 rfl]; omega)).mono (by omega)
theorem IR.gp {u a w : iST} {b E c e k d : Int} (hu : TI u) (h : IR u b E a c e k) (g : GP a w d) : IR u b E w (c + d) (e + d) k := by
  obtain ⟨h1, h2, h3, h4, h5, h6, h7, h8, h9, h10⟩ := h
  have hT := h1.1.1.1
  have hF := g.2.2.1
  refine ⟨h1.gp hu g, h2.gp hT g, by rw [fx_s hF 122 rfl]; exact h3, ?_, by rw [fx_s hF 126 rfl]; exact h5, by rw [fx_a hF 123 rfl]; exact h6, by rw [fx_a hF 124 rfl]; exact h7, by rw [fx_a hF 125 rfl]; exact h8, by rw [fx_s hF 60 rfl]; exact h9, by rw [fx_s hF 117 rfl]; exact h10⟩
  exact (h4.keep (c := d) hT g.2.1 h2 (fx_s hF 122 rfl) (fx_a hF 121 rfl) g.w0 g.2.2.2.2.2.1).mono (by omega)
theorem IR.pn {u a w y : iST} {b E c e k : Int} (hu : TI u) (h : IR u b E a c e k) (g : GP a w 241) (hF : Fx fD w y) (hL : y.2.2 = w.2.2) (hd : DR y) (h122 : y.1 122 ≤ a.1 122 + 1) (hN : DNi b y (E + e + 1)) : IR u b E y (c + 241) (e + 1) (k + 1) ∧ ExtT a y := by
  obtain ⟨h1, h2, h3, h4, h5, h6, h7, h8, h9, h10⟩ := h
  have hT := h1.1.1.1
  have gF := g.2.2.1
  have hE : ExtT w y := ExtT.same (fun k hk => hF k (by simp [fD]; omega)) hL (SameF.of hF rfl rfl rfl rfl rfl)
  exact ⟨⟨(h1.gp hu g).put hu hF hL, hd, by omega, hN.mono (by omega), by rw [fx_s hF 126 rfl, fx_s gF 126 rfl]; exact h5, by rw [fx_a hF 123 rfl, fx_a gF 123 rfl]; exact h6, by rw [fx_a hF 124 rfl, fx_a gF 124 rfl]; exact h7, by rw [fx_a hF 125 rfl, fx_a gF 125 rfl]; exact h8, by rw [fx_s hF 60 rfl, fx_s gF 60 rfl]; exact h9, by rw [fx_s hF 117 rfl, fx_s gF 117 rfl]; exact h10⟩, g.2.1.tr hT hE⟩
theorem g_putIR {u a : iST} {b E c e k x : Int} {Q : iST → Prop} (hu : TI u) (h : IR u b E a c e k) (h122 : a.1 122 < 1200) (hx : IsT a x) (hs : Sm a x) (hq : ∀ y, IR u b E y c e (k + 1) → ExtT a y → Q y) : w_put x Q a := by
  obtain ⟨h1, h2, h3, h4, h5, h6, h7, h8, h9, h10⟩ := h
  have hT := h1.1.1.1
  refine g_putS h2 h122 (fun _ _ _ => hq a ⟨h1, h2, by omega, h4, h5, h6, h7, h8, h9, h10⟩ (ExtT.rf a)) ?_
  have hF : Fx fD a (iI (iA a 121 (a.1 122) x) 122 (a.1 122 + 1)) := (Fx_A (k := 121) rfl).tr (Fx_I (k := 122) rfl)
  have hE : ExtT a (iI (iA a 121 (a.1 122) x) 122 (a.1 122 + 1)) := ExtT.same (fun k hk => hF k (by simp [fD]; omega)) rfl (SameF.of hF rfl rfl rfl rfl rfl)
  have e' : ∀ i, (iI (iA a 121 (a.1 122) x) 122 (a.1 122 + 1)).2.1 121 i = if i = a.1 122 then x else a.2.1 121 i := fun i => iA_same
  have z0 := h2.1
  refine hq _ ⟨h1.put hu hF rfl, ⟨show 0 ≤ a.1 122 + 1 by omega, fun i i0 i1 => ?_⟩, show a.1 122 + 1 ≤ u.1 122 + (k + 1) by omega, fun q => ?_, h5, h6, h7, h8, h9, h10⟩ hE
  · have i1 : i < a.1 122 + 1 := i1
    rw [e']
    by_cases ei : i = a.1 122
    · rw [if_pos ei]; exact ⟨hx.ext hT hE, hs.of hx hE rfl⟩
    · rw [if_neg ei]
      have hi := h2.2 i i0 (by omega)
      exact ⟨hi.1.ext hT hE, hi.2.of hi.1 hE rfl⟩
  · have q : a.1 61 = 0 := q
    have n1 := h4 q
    have n2 := NX_ext hT hE (a.1 122).toNat (fun i hi => ⟨h2.dr i hi, by rw [e', if_neg (by omega)]⟩)
    have n3 := hx.szr hT
    have n4 := nx_ext hT hE hx
    have n5 := (nx_r (v := a) x (by omega)).1
    show a.1 8 ≤ b + (E + e) + NX _ (a.1 122 + 1).toNat
    rw [show (a.1 122 + 1).toNat = (a.1 122).toNat + 1 from by omega]
    show a.1 8 ≤ b + (E + e) + (NX _ (a.1 122).toNat + nx _ ((iI (iA a 121 (a.1 122) x) 122 (a.1 122 + 1)).2.1 121 ((a.1 122).toNat : Int)))
    rw [e', if_pos (by omega)]
    omega
theorem preS_le {u : iST} (hT : TI u) {l : Int} {n : Nat} (ha : AllE u (IsT u) l n) : ∀ k, k ≤ n → preS u l k ≤ sumS u l n := by
  intro k hk
  rw [← preS_sum]
  induction n with
  | zero => have : k = 0 := by omega
            subst this; exact Int.le_refl _
  | succ n ih =>
    by_cases e : k = n + 1
    · subst e; exact Int.le_refl _
    · have ha' : AllE u (IsT u) l n := AllE_of fun i hi => ha.el i (by omega)
      have h1 := ih ha' (by omega)
      have h2 := (ha.el n (by omega)).szr hT
      show preS u l k ≤ preS u l n + sz u (el u l n)
      omega
