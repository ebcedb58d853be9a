/-! hints -/
def fHi (k : Nat) : Bool := fB k || decide (k = 53) || (decide (75 ≤ k) && decide (k ≤ 78)) || (decide (133 ≤ k) && decide (k ≤ 139))
def fHq (k : Nat) : Bool := decide (k = 53) || (decide (75 ≤ k) && decide (k ≤ 78)) || (decide (133 ≤ k) && decide (k ≤ 139))
theorem fHq_t : ∀ k, k ≤ 11 → fHq k = false := fun k hk => by simp [fHq]; omega
def Hs (u v : iST) (c : Int) : Prop := TI v ∧ ExtT u v ∧ Fx fHi u v ∧ v.1 69 = 0 ∧ v.1 71 = 0 ∧ v.1 8 ≤ u.1 8 + c ∧ v.1 6 = u.1 6 ∧ v.1 11 = u.1 11 ∧ v.1 61 = u.1 61
theorem Hs.gp {u v w : iST} {c d : Int} (hT : TI u) (h : Hs u v c) (g : GP v w d) (h61 : w.1 61 = v.1 61) : Hs u w (c + d) := by
  obtain ⟨a1, a2, a3, a4, a5, a6, a7, a8, a9⟩ := h
  obtain ⟨b1, b2, b3, b4, b5, b6, b7, b8, _⟩ := g
  exact ⟨b1, a2.tr hT b2, a3.tr (b3.mono (fun k hk => by simp only [fHi, Bool.or_eq_false_iff] at hk; exact hk.1.1.1)), b4, b5, by omega, by omega, by omega, by omega⟩
theorem Hs.fx {u v w : iST} {c : Int} (hT : TI u) (h : Hs u v c) (hF : Fx fHq v w) (hL : w.2.2 = v.2.2) : Hs u w c ∧ ExtT v w := by
  obtain ⟨a1, a2, a3, a4, a5, a6, a7, a8, a9⟩ := h
  have ht : ∀ k, k ≤ 11 → w.1 k = v.1 k ∧ w.2.1 k = v.2.1 k := fun k hk => hF k (fHq_t k hk)
  have hE : ExtT v w := ExtT.same ht hL (SameF.of hF rfl rfl rfl rfl rfl)
  refine ⟨⟨TI_eq a1 ht hL, a2.tr hT hE, a3.tr (hF.mono (fun k hk => ?_)), by rw [fx_s hF 69 rfl]; exact a4, by rw [fx_s hF 71 rfl]; exact a5, by rw [fx_s hF 8 rfl]; exact a6, by rw [fx_s hF 6 rfl]; exact a7, by rw [fx_s hF 11 rfl]; exact a8, by rw [fx_s hF 61 rfl]; exact a9⟩, hE⟩
  simp [fHi] at hk
  simp [fHq]
  omega
theorem Hs.mono {u v : iST} {c d : Int} (h : Hs u v c) (hd : c ≤ d) : Hs u v d := ⟨h.1, h.2.1, h.2.2.1, h.2.2.2.1, h.2.2.2.2.1, by have := h.2.2.2.2.2.1; omega, h.2.2.2.2.2.2⟩
theorem Hs.gi {u v : iST} {c : Int} (hG : GI u) (h : Hs u v c) : GI v := ⟨h.1, hG.2.1.ext h.2.1.1 (SameF.of h.2.2.1 rfl rfl rfl rfl rfl), h.2.2.2.1, h.2.2.2.2.1⟩
def UseOk (v : iST) (j : Int) : Prop := 0 ≤ v.2.1 137 j ∧ v.2.1 137 j < v.1 42 ∧ ∃ n : Nat, PairsOk v (v.2.1 138 j) n
def IndOk (v : iST) : Prop := ∃ (d : Int) (N : Nat), 0 ≤ d ∧ d < v.1 35 ∧ v.1 133 = 100 + d ∧ v.2.1 37 d = N ∧ IsL v (v.1 134) N ∧ (∀ i, i < N → v.2.1 0 (el v (v.1 134) i) = -2) ∧ (∀ e, 0 ≤ e → e < d → v.2.1 36 e ≠ v.2.1 36 d) ∧ v.2.1 41 d ≠ 0
noncomputable def sumU (v : iST) : Nat → Int
  | 0 => 0
  | n + 1 => sumU v n + wB v (v.2.1 138 (n : Int))
def Hf (v : iST) (c : Int) : Prop := 0 ≤ v.1 139 ∧ 4 * v.1 139 + sumU v (v.1 139).toNat ≤ c ∧ (∀ j, 0 ≤ j → j < v.1 139 → UseOk v j) ∧ 0 ≤ sumU v (v.1 139).toNat ∧ (v.1 136 = 0 → v.1 133 = -1 ∨ IndOk v)
theorem sumU_ext {v w : iST} (hT : TI v) (hW : TI w) (hE : ExtT v w) : ∀ (n : Nat), (∀ j : Nat, j < n → w.2.1 138 j = v.2.1 138 j ∧ 0 ≤ v.2.1 138 j ∧ v.2.1 138 j < v.1 8) → sumU w n = sumU v n
  | 0, _ => rfl
  | n + 1, h => by
    show sumU w n + wB w (w.2.1 138 (n : Int)) = sumU v n + wB v (v.2.1 138 (n : Int))
    obtain ⟨a, b, c⟩ := h n (by omega)
    rw [sumU_ext hT hW hE n (fun j hj => h j (by omega)), a, (w_ext hT hW hE.1 b c).2]
theorem UseOk.r {v : iST} (hT : TI v) {j : Int} (h : UseOk v j) : 0 ≤ v.2.1 138 j ∧ v.2.1 138 j < v.1 8 := by
  obtain ⟨_, _, n, hn⟩ := h
  exact hn.1.r (by have := hT.1; omega)
theorem UseOk.ext {v w : iST} (hT : TI v) (hW : TI w) (hE : ExtT v w) {j : Int} (h42 : w.1 42 = v.1 42) (e1 : w.2.1 137 j = v.2.1 137 j) (e2 : w.2.1 138 j = v.2.1 138 j) (h : UseOk v j) : UseOk w j := by
  obtain ⟨a, b, n, c⟩ := h
  unfold UseOk
  rw [e1, e2, h42]
  exact ⟨a, b, n, c.ext hT hW hE⟩
theorem IndOk.ext {v w : iST} (hT : TI v) (hE : ExtT v w) (h35 : w.1 35 = v.1 35) (h36 : w.2.1 36 = v.2.1 36) (h37 : w.2.1 37 = v.2.1 37) (h41 : w.2.1 41 = v.2.1 41) (h133 : w.1 133 = v.1 133) (h134 : w.1 134 = v.1 134) (h : IndOk v) : IndOk w := by
  obtain ⟨d, N, a1, a2, a3, a4, a5, a6, a7, a8⟩ := h
  unfold IndOk
  rw [h35, h36, h37, h133, h134, h41]
  refine ⟨d, N, a1, a2, a3, a4, a5.ext hT hE.1, fun i hi => ?_, a7, a8⟩
  rw [el_ext hE.1 a5 i hi]
  have r := IsL.elr hT a5 i hi
  rw [(hE.1.2.1 _ r.1 r.2).1]
  exact a6 i hi
theorem Hf.ext {v w : iST} {c : Int} (hT : TI v) (hW : TI w) (hE : ExtT v w) (h35 : w.1 35 = v.1 35) (h36 : w.2.1 36 = v.2.1 36) (h37 : w.2.1 37 = v.2.1 37) (h41 : w.2.1 41 = v.2.1 41) (h42 : w.1 42 = v.1 42) (h137 : w.2.1 137 = v.2.1 137) (h138 : w.2.1 138 = v.2.1 138) (h139 : w.1 139 = v.1 139) (h136 : w.1 136 = 0 → v.1 136 = 0 ∧ w.1 133 = v.1 133 ∧ w.1 134 = v.1 134) (h : Hf v c) : Hf w c := by
  obtain ⟨a, b, d, e, f⟩ := h
  unfold Hf
  rw [h139]
  have es := sumU_ext hT hW hE (v.1 139).toNat (fun j hj => ⟨by rw [h138], (d j (by omega) (by omega)).r hT⟩)
  refine ⟨a, by rw [es]; exact b, fun j j0 j1 => (d j j0 j1).ext hT hW hE h42 (by rw [h137]) (by rw [h138]), by rw [es]; exact e, fun z => ?_⟩
  · obtain ⟨z1, z2, z3⟩ := h136 z
    rw [z2]
    exact (f z1).imp id (fun q => q.ext hT hE h35 h36 h37 h41 z2 z3)
theorem Hf.mono {v : iST} {c d : Int} (h : Hf v c) (hd : c ≤ d) : Hf v d := ⟨h.1, by have := h.2.1; omega, h.2.2.1, h.2.2.2.1, h.2.2.2.2⟩
theorem Hf.fx {u v w : iST} {c d : Int} (hu : TI u) (hs : Hs u v c) (hF : Fx fHq v w) (hL : w.2.2 = v.2.2) (h137 : w.2.1 137 = v.2.1 137) (h138 : w.2.1 138 = v.2.1 138) (h139 : w.1 139 = v.1 139) (h136 : w.1 136 = 0 → v.1 136 = 0 ∧ w.1 133 = v.1 133 ∧ w.1 134 = v.1 134) (h : Hf v d) : Hf w d := by
  obtain ⟨s, e⟩ := hs.fx hu hF hL
  exact h.ext hs.1 s.1 e (fx_s hF 35 rfl) (fx_a hF 36 rfl) (fx_a hF 37 rfl) (fx_a hF 41 rfl) (fx_s hF 42 rfl) h137 h138 h139 h136
/-- Hs and Hf together -/
def W6 (v : iST) : Prop := v.1 136 = 0 ∨ v.1 136 = 2 ∨ v.1 136 = 3
def HH (u v : iST) (c d : Int) : Prop := Hs u v c ∧ Hf v d ∧ W6 v
theorem s_wrong {u v : iST} {x c d : Int} {Q : iST → Prop} (hu : TI u) (hx : x = 2 ∨ x = 3) (h : HH u v c d) (hq : ∀ w, HH u w c d → w.1 136 ≠ 0 → (w = v ∨ w = iI v 136 x) → Q w) : w_wrong x Q v := by
  have hx0 : x ≠ 0 := by omega
  have set : Q (iI v 136 x) := hq _ ⟨(h.1.fx hu (Fx_I (k := 136) rfl) rfl).1, h.2.1.fx hu h.1 (Fx_I (k := 136) rfl) rfl rfl rfl rfl (fun z => absurd z hx0), Or.inr hx⟩ hx0 (Or.inr rfl)
  unfold w_wrong w_wrong_15
  exact rd_i fun _ => br_i (fun _ => sw_i set) fun hne => rd_i fun _ => br_i (fun _ => hq v h hne (Or.inl rfl)) fun _ => sw_i set
theorem g_induction {u v : iST} {o c d : Int} {Q : iST → Prop} (hu : TI u) (h : HH u v c d) (h35 : 0 ≤ v.1 35 ∧ v.1 35 ≤ 40) (o0 : 0 ≤ o) (o1 : o < v.1 8) (hq : ∀ w, HH u w c d → w.1 8 = v.1 8 → Q w) : w_induction o Q v := by
  have vT := h.1.1
  have vm := vT.2.1
  have bad : w_induction_73 Q o v := by
    unfold w_induction_73 w_induction_74
    exact br_n (by decide) (s_wrong hu (by omega) h fun w hw _ hc => hq w hw (by rcases hc with rfl | rfl <;> rfl))
  unfold w_induction
  refine s_lengthOf vT o0 o1 (fun _ => br_y (by decide) bad) fun n _ hn => br_i (fun _ => bad) fun hn2 => ?_
  have en : n = 2 := by omega
  subst en
  have r1 := IsL.elr vT hn 1 (by omega)
  refine s_nth vT o0 o1 (by decide) (by decide) (s_isPair r1.1 (by show el v o 1 < 452000; omega) fun r _ hr => br_i (fun _ => bad) fun hr1 => s_nth vT o0 o1 (by decide) (by decide) ?_)
  rw [show (1 : Int).toNat = 1 from rfl] at *
  have hp : 0 ≤ v.2.1 0 (el v o 1) := by
    have : ¬ v.2.1 0 (el v o 1) < 0 := fun z => hr1 (hr.mpr z)
    omega
  have pr := vT.pair r1.1 r1.2 hp
  refine bd_i r1.1 (by omega) (rd_i fun _ => s_isNewName hp (by omega) fun b _ hb => br_i (fun _ => bad) fun hb0 => s_nth vT o0 o1 (by decide) (by decide) (bd_i r1.1 (by show el v o 1 < 452000; omega) (rd_i fun _ => s_areVariables vT pr.2.1 (by show v.2.1 1 (el v o 1) < v.1 8; omega) (by decide) fun b2 _ hb2 => br_i (fun _ => bad) fun hb20 => rd_i fun _ => br_i (fun _ => bad) fun h133 => ?_)))
  obtain ⟨N, hN, hl, hvar⟩ := hb2 hb20
  clear hb2 hb
  have hl : IsL v (v.2.1 1 (el v o 1)) N := hl
  have hvar : ∀ i, i < N → v.2.1 0 (el v (v.2.1 1 (el v o 1)) i) = -2 := fun i hi => (hvar i hi).1
  unfold w_induction_74
  refine br_y (by decide) (s_nth vT o0 o1 (by decide) (by decide) (bd_i r1.1 (by show el v o 1 < 452000; omega) (rd_i fun _ => sw_i (sw_i ?_))))
  show w_nth o 1 _ (iI (iI v 134 (v.2.1 1 (el v o 1))) 133 0)
  generalize hz : iI (iI v 134 (v.2.1 1 (el v o 1))) 133 0 = z
  have z1 : ∀ k, k ≠ 134 → k ≠ 133 → z.1 k = v.1 k := fun k h1 h2 => by rw [← hz]; exact (if_neg h2).trans (if_neg h1)
  have z2 : z.2 = v.2 := by rw [← hz]; rfl
  have z133 : z.1 133 = 0 := by rw [← hz]; rfl
  have z134 : z.1 134 = v.2.1 1 (el v o 1) := by rw [← hz]; rfl
  have zF : Fx fHq v z := by rw [← hz]; exact (Fx_I (k := 134) rfl).tr (Fx_I (k := 133) rfl)
  clear hz
  have zt : ∀ k, k ≤ 11 → z.1 k = v.1 k ∧ z.2.1 k = v.2.1 k := fun k hk => zF k (fHq_t k hk)
  obtain ⟨zS, zE⟩ := h.1.fx hu zF (by rw [z2])
  have zT := zS.1
  have z8 := (zt 8 (by decide)).1
  refine s_nth zT o0 (by omega) (by decide) (by decide) ?_
  rw [show (1 : Int).toNat = 1 from rfl, el_t zt]
  refine bd_i r1.1 (by omega) (rd_i fun _ => ?_)
  rw [(zt 0 (by decide)).2]
  -- a wrong hint: hintWrong is set
  have wr : ∀ (x : Int) (K : iST → Prop), (x = 2 ∨ x = 3) → (∀ w, HH u w c d → w.1 8 = v.1 8 → K w) → w_wrong x K z := by
    intro x K hx23 hK
    have hx : x ≠ 0 := by omega
    have fin : ∀ w : iST, (w = z ∨ w = iI z 136 x) → w.1 136 ≠ 0 → K w := by
      intro w hw hne
      have wF : Fx fHq z w := by
        rcases hw with rfl | rfl
        · exact Fx.rf _ _
        · exact Fx_I (k := 136) rfl
      have w2 : w.2 = v.2 := by rcases hw with rfl | rfl <;> exact z2
      have w139 : w.1 139 = v.1 139 := by rcases hw with rfl | rfl <;> exact z1 139 (by decide) (by decide)
      have w8 : w.1 8 = v.1 8 := by rcases hw with rfl | rfl <;> exact z8
      have w6 : W6 w := by
        rcases hw with rfl | rfl
        · have := h.2.2
          unfold W6 at *
          rw [z1 136 (by decide) (by decide)]
          exact this
        · exact Or.inr hx23
      refine hK w ⟨(zS.fx hu wF (by rw [w2, z2])).1, ?_, w6⟩ w8
      exact h.2.1.fx hu h.1 (zF.tr wF) (by rw [w2]) (by rw [w2]) (by rw [w2]) w139 (fun q => absurd q hne)
    unfold w_wrong w_wrong_15
    exact rd_i fun _ => br_i (fun _ => sw_i (fin _ (Or.inr rfl) hx)) fun hne => rd_i fun _ => br_i (fun _ => fin z (Or.inl rfl) hne) fun _ => sw_i (fin _ (Or.inr rfl) hx)
  have e35 : z.1 35 = v.1 35 := z1 35 (by decide) (by decide)
  have k160 : w_induction_160 Q z := by
    unfold w_induction_160
    exact wr 2 _ (Or.inl rfl) hq
  refine s_definition (by omega) (by omega) fun r hr => br_i (fun hr1 => ?_) fun _ => wr 3 _ (Or.inr rfl) hq
  rcases hr with ⟨e, _⟩ | ⟨d0, d1, d2, d3⟩
  · exact absurd e hr1
  refine bd_i d0 (by omega) (rz_i fun _ => br_i (fun _ => k160) fun h41 => rd_i fun _ => ?_)
  rw [z134]
  have hlz : IsL z (v.2.1 1 (el v o 1)) N := hl.eq zt
  refine s_lengthOf zT pr.2.1 (by omega) (fun hno => absurd hlz (hno N)) fun ln _ hln => ?_
  have := IsL_uniq zT hln hlz
  subst this
  refine bd_i d0 (by omega) (rd_i fun _ => br_i (fun he => ov_i (by omega) (by omega) (sw_i ?_)) fun _ => k160)
  have wF : Fx fHq z (iI z 133 (100 + r)) := Fx_I (k := 133) rfl
  have wt : ∀ k, k ≤ 11 → (iI z 133 (100 + r)).1 k = v.1 k ∧ (iI z 133 (100 + r)).2.1 k = v.2.1 k := fun k hk => ⟨(if_neg (by omega)).trans (zt k hk).1, (zt k hk).2⟩
  have w6 : W6 (iI z 133 (100 + r)) := by
    have := h.2.2
    unfold W6 at *
    show z.1 136 = 0 ∨ z.1 136 = 2 ∨ z.1 136 = 3
    rw [z1 136 (by decide) (by decide)]
    exact this
  refine hq _ ⟨(zS.fx hu wF rfl).1, ?_, w6⟩ z8
  have hwS := (zS.fx hu wF rfl).1
  have hE := (h.1.fx hu (zF.tr wF) (by show z.2.2 = v.2.2; rw [z2])).2
  obtain ⟨g1, g2, g3, g4, g5⟩ := h.2.1
  have w139 : (iI z 133 (100 + r)).1 139 = v.1 139 := z1 139 (by decide) (by decide)
  have w42 : (iI z 133 (100 + r)).1 42 = v.1 42 := z1 42 (by decide) (by decide)
  have w138 : (iI z 133 (100 + r)).2.1 138 = v.2.1 138 := by show z.2.1 138 = _; rw [z2]
  have w137 : (iI z 133 (100 + r)).2.1 137 = v.2.1 137 := by show z.2.1 137 = _; rw [z2]
  unfold Hf
  rw [w139]
  have es := sumU_ext vT hwS.1 hE (v.1 139).toNat (fun j hj => ⟨by rw [w138], (g3 j (by omega) (by omega)).r vT⟩)
  refine ⟨g1, by rw [es]; exact g2, fun j j0 j1 => (g3 j j0 j1).ext vT hwS.1 hE w42 (by rw [w137]) (by rw [w138]), by rw [es]; exact g4, fun _ => Or.inr ⟨r, ln, d0, ?_, rfl, ?_, ?_, fun i hi => ?_, ?_, h41⟩⟩
  · show r < z.1 35; exact d1
  · exact he.symm
  · show IsL (iI z 133 (100 + r)) (z.1 134) ln
    rw [z134]
    exact IsL.eq (u := v) (v := iI z 133 (100 + r)) wt hl
  · show (iI z 133 (100 + r)).2.1 0 (el (iI z 133 (100 + r)) (z.1 134) i) = -2
    rw [z134, el_t wt, (wt 0 (by decide)).2]
    exact hvar i hi
  · intro e e0 e1
    show z.2.1 36 e ≠ z.2.1 36 r
    rw [d2]
    exact d3 e e0 e1
