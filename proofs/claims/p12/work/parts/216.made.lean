/-! made, notOf; what the making of terms needs and leaves -/
def GI (u : iST) : Prop := TI u ∧ DI u ∧ u.1 69 = 0 ∧ u.1 71 = 0
def GP (u v : iST) (d : Int) : Prop := TI v ∧ ExtT u v ∧ Fx fB u v ∧ v.1 69 = 0 ∧ v.1 71 = 0 ∧ v.1 8 ≤ u.1 8 + d ∧ v.1 6 = u.1 6 ∧ v.1 11 = u.1 11 ∧ (v.1 61 = u.1 61 ∨ (u.1 61 = 0 ∧ v.1 61 = 4))
def Sm (v : iST) (t : Int) : Prop := v.1 61 = 0 → sz v t ≤ 120
theorem GP.gi {u v : iST} {d : Int} (h : GP u v d) (hG : GI u) : GI v := ⟨h.1, hG.2.1.ext h.2.1.1 (SameF.B h.2.2.1), h.2.2.2.1, h.2.2.2.2.1⟩
theorem GP.rf {u : iST} (hG : GI u) : GP u u 0 := ⟨hG.1, ExtT.rf u, Fx.rf _ u, hG.2.2.1, hG.2.2.2, by omega, rfl, rfl, Or.inl rfl⟩
theorem GP.tr {u v w : iST} {d e : Int} (hT : TI u) (h : GP u v d) (g : GP v w e) : GP u w (d + e) := by
  obtain ⟨a1, a2, a3, a4, a5, a6, a7, a8, a9⟩ := h
  obtain ⟨b1, b2, b3, b4, b5, b6, b7, b8, b9⟩ := g
  exact ⟨b1, a2.tr hT b2, a3.tr b3, b4, b5, by omega, b7.trans a7, b8.trans a8, by omega⟩
theorem GP.mono {u v : iST} {d e : Int} (h : GP u v d) (hd : d ≤ e) : GP u v e := by
  obtain ⟨a1, a2, a3, a4, a5, a6, a7, a8, a9⟩ := h
  exact ⟨a1, a2, a3, a4, a5, by omega, a7, a8, a9⟩
theorem GP.t {u v : iST} {d : Int} (h : GP u v d) (hT : TI u) {x : Int} (hx : IsT u x) : IsT v x := hx.ext hT h.2.1
theorem GP.s {u v : iST} {d : Int} (h : GP u v d) {x : Int} (hx : IsT u x) : sz v x = sz u x := h.2.1.szx hx
theorem GP.w0 {u v : iST} {d : Int} (h : GP u v d) (hv : v.1 61 = 0) : u.1 61 = 0 := by have := h.2.2.2.2.2.2.2.2; omega
theorem GP.sub {u v : iST} {d : Int} (h : GP u v d) (hT : TI u) (hs : SubOk u) : SubOk v := by
  unfold SubOk
  rw [fx_s h.2.2.1 74 rfl, fx_a h.2.2.1 73 rfl]
  exact ⟨hs.1, hs.2.1, fun i i0 i1 => h.t hT (hs.2.2 i i0 i1)⟩
theorem g_inst {o : Int} {Q : Int → iST → Prop} {u : iST} (hG : GI u) (ho : IsT u o) (hs : sz u o ≤ 120) (hsub : SubOk u) (h8 : u.1 8 + 2 * sz u o ≤ 452000) (hq : ∀ t v, GP u v (2 * sz u o - 1) → IsT v t → Sm v t → sz u o ≤ sz v t → (t < u.1 8 → v.1 8 = u.1 8) → Q t v) : w_instance o Q u :=
  g_instance hG.1 hG.2.1 hG.2.2.1 hG.2.2.2 ho hs hsub h8 fun t v ⟨a1, a2, a3, a4, a5, a6, a7, a8, a9, a10, a11, a12, a13⟩ => hq t v ⟨a1, a2, a3, a4, a5, by omega, a7, a8, a13⟩ a9 (fun z => (a12 z).1) (a10 trivial) a11
theorem g_term {o : Int} {Q : Int → iST → Prop} {u : iST} (hG : GI u) (o0 : 0 ≤ o) (o1 : o < u.1 8) (hw : wA u o ≤ 1100) (h8 : u.1 8 + wA u o < 451990) (hq : ∀ t v, GP u v (wA u o - 1) → v.1 61 = u.1 61 → (t = -1 ∨ (IsT v t ∧ sz v t ≤ 120)) → Q t v) : w_termOf o Q u :=
  g_termOf hG.1 hG.2.1 hG.2.2.1 hG.2.2.2 o0 o1 hw h8 fun t v ⟨⟨a1, a2, a3, a4, a5, a6⟩, b1, b2, b3, b4⟩ => hq t v ⟨a1, a2, a3, b1, b2, by omega, a5, a6, Or.inl a4⟩ a4 (b4.imp (fun z => z.1) (fun z => ⟨z.1, z.2.1⟩))
/-- whether the text is a term is known -/
theorem g_termT {o : Int} {Q : Int → iST → Prop} {u : iST} (hG : GI u) (o0 : 0 ≤ o) (o1 : o < u.1 8) (hw : wA u o ≤ 1100) (h8 : u.1 8 + wA u o < 451990) (hq : ∀ t v, GP u v (wA u o - 1) → v.1 61 = u.1 61 → ((t = -1 ∧ 120 < tS u o) ∨ (IsT v t ∧ sz v t ≤ 120 ∧ sz v t = tS u o)) → Q t v) : w_termOf o Q u :=
  g_termOf hG.1 hG.2.1 hG.2.2.1 hG.2.2.2 o0 o1 hw h8 fun t v ⟨⟨a1, a2, a3, a4, a5, a6⟩, b1, b2, b3, b4⟩ => hq t v ⟨a1, a2, a3, b1, b2, by omega, a5, a6, Or.inl a4⟩ a4 (b4.imp id (fun z => ⟨z.1, z.2.1, z.2.2.1⟩))
/-- the term of a text, with what it is -/
theorem g_termX {o : Int} {Q : Int → iST → Prop} {u : iST} (hG : GI u) (o0 : 0 ≤ o) (o1 : o < u.1 8) (hw : wA u o ≤ 1100) (h8 : u.1 8 + wA u o < 451990) (hq : ∀ t v, GP u v (wA u o - 1) → v.1 61 = u.1 61 → ((t = -1 ∧ 120 < tS u o) ∨ (IsT v t ∧ sz v t ≤ 120 ∧ sz v t = tS u o ∧ T2 v o t)) → Q t v) : w_termOf o Q u :=
  g_termOf hG.1 hG.2.1 hG.2.2.1 hG.2.2.2 o0 o1 hw h8 fun t v ⟨⟨a1, a2, a3, a4, a5, a6⟩, b1, b2, b3, b4⟩ => hq t v ⟨a1, a2, a3, b1, b2, by omega, a5, a6, Or.inl a4⟩ a4 b4
theorem Ar_base {u : iST} {f : Int} {n : Nat} (h0 : 3 ≤ f) (h1 : f ≤ 16) (hn : (f = 3 ∧ n = 3) ∨ (4 ≤ f ∧ f ≤ 9 ∧ n = 2) ∨ (10 ≤ f ∧ n = 1)) : Ar u f n := by
  refine ⟨f, Or.inl ⟨h0, h1, rfl⟩, by omega, ?_⟩
  unfold Many
  rcases hn with ⟨a, b⟩ | ⟨a, b, c⟩ | ⟨a, b⟩
  · rw [if_pos a, b]; rfl
  · rw [if_neg (by omega), if_pos b, c]; rfl
  · rw [if_neg (by omega), if_neg (by omega), if_pos h1, b]; rfl
def MP (u : iST) (f : Int) (n : Nat) (s : Int) (t : Int) (v : iST) : Prop := GP u v (n + 1) ∧ IsT v t ∧ Sm v t ∧ v.2.1 0 t = f ∧ sz v t = capS (1 + s) ∧ (t < u.1 8 → v.1 8 = u.1 8) ∧ IsL v (v.2.1 1 t) n
theorem g_made33 {f : Int} {n : Nat} {Q : Int → iST → Prop} {u w : iST} (hG : GI u) (hx : ∀ k, k ≠ 71 → w.1 k = u.1 k) (hy : ∀ g, g ≠ 70 → w.2.1 g = u.2.1 g) (hL : w.2.2 = u.2.2) (h71 : w.1 71 = n) (hn : n ≤ 6) (hI : ∀ i : Nat, i < n → IsT u (w.2.1 70 i)) (f0 : 0 ≤ f) (f1 : f < u.1 8) (ha : Ar u f n) (h8 : u.1 8 + n + 1 ≤ 452000) (hq : ∀ t v, MP u f n (sumB w 0 n) t v → (∀ i, i < n → el v (v.2.1 1 t) i = w.2.1 70 i) → Q t v) : w_made_33 Q f 0 w := by
  obtain ⟨hT, hD, h69, h710⟩ := hG
  have xt : ∀ k, k ≤ 11 → w.1 k = u.1 k ∧ w.2.1 k = u.2.1 k := fun k hk => ⟨hx k (by omega), hy k (by omega)⟩
  have xS : SameF u w := ⟨hx 35 (by decide), hy 36 (by decide), hy 37 (by decide), hx 57 (by decide), hx 58 (by decide)⟩
  have xE : ExtT u w := ExtT.same xt hL xS
  have xT : TI w := TI_eq hT xt hL
  have xF : Fx fB u w := fun g hg => by
    have hg2 : g ≠ 70 ∧ g ≠ 71 := by simp [fB] at hg; omega
    exact ⟨hx g hg2.2, hy g hg2.1⟩
  unfold w_made_33
  refine g_callFrom (n := n) xT (hD.ext xE.1 xS) (by decide) (by rw [h71]; omega) (by rw [h71]; omega) hn (fun i hi => by rw [show (0 : Int) + i = i from by omega]; exact (hI i hi).ext hT xE) f0 (by rw [hx 8 (by decide)]; exact f1) (xS.ar ha) (by rw [hx 8 (by decide)]; exact h8) fun t z hz => sw_i ?_
  obtain ⟨z1, z2, z3, z4, z5, z6, z7, z8, z9, z10, z11, z12, z13⟩ := hz
  have zr := z7.r
  have z8m := z1.2.1
  have f3 := (ha.r hD f0).1
  have e61 : z.1 61 = u.1 61 := ((z3 61 rfl).1).trans (hx 61 (by decide))
  have esz : sz z t = z.2.1 3 t := by unfold sz; rw [if_pos (by rw [z8]; omega)]
  have fin : ∀ v : iST, (v = iI z 71 0 ∨ v = iI (iI z 71 0) 61 4) → (v.1 61 = 0 → sz z t ≤ 120) → (v.1 61 = u.1 61 ∨ (u.1 61 = 0 ∧ v.1 61 = 4)) → Q t v := by
    intro v hv hv1 hv2
    have v2 : v.2 = z.2 := by rcases hv with rfl | rfl <;> rfl
    have v1 : ∀ k, k ≠ 71 → k ≠ 61 → v.1 k = z.1 k := fun k k1 k2 => by
      rcases hv with rfl | rfl
      · exact if_neg k1
      · exact (if_neg k2).trans (if_neg k1)
    have v71 : v.1 71 = 0 := by rcases hv with rfl | rfl <;> rfl
    have vt : ∀ k, k ≤ 11 → v.1 k = z.1 k ∧ v.2.1 k = z.2.1 k := fun k hk => ⟨v1 k (by omega) (by omega), by rw [v2]⟩
    have vS : SameF z v := ⟨v1 35 (by decide) (by decide), by rw [v2], by rw [v2], v1 57 (by decide) (by decide), v1 58 (by decide) (by decide)⟩
    have vE : ExtT z v := ExtT.same vt (by rw [v2]) vS
    have vsz := vE.szx z7
    refine hq t v ⟨⟨TI_eq z1 vt (by rw [v2]), (xE.tr hT z2).tr hT vE, (xF.tr (fT_B z3)).tr ?_, ?_, v71, ?_, ?_, ?_, hv2⟩, z7.ext z1 vE, fun q => by rw [vsz]; exact hv1 q, by rw [v2]; exact z8, by rw [vsz]; exact z9, fun ht => ?_, by rw [v2]; exact z11.ext z1 vE.1⟩ (fun i hi => ?_)
    · intro g hg
      have hg2 : g ≠ 61 ∧ g ≠ 71 := by simp [fB] at hg; omega
      exact ⟨v1 g hg2.2 hg2.1, by rw [v2]⟩
    · rw [v1 69 (by decide) (by decide), (z3 69 rfl).1, hx 69 (by decide)]; exact h69
    · rw [v1 8 (by decide) (by decide), ← hx 8 (by decide)]; omega
    · rw [v1 6 (by decide) (by decide), z5, hx 6 (by decide)]
    · rw [v1 11 (by decide) (by decide), z6, hx 11 (by decide)]
    · rw [v1 8 (by decide) (by decide), ← hx 8 (by decide)]
      exact z10 (by rw [hx 8 (by decide)]; exact ht)
    · rw [v2, el_ext vE.1 z11 i hi, z12 i hi, show (0 : Int) + i = i from by omega]
  refine bd_i zr.1 (by omega) (rd_i fun _ => ?_)
  show br (z.2.1 3 t ≤ 120) _ _
  refine br_i (fun hle => fin _ (Or.inl rfl) (fun _ => by omega) (Or.inl e61)) (fun hgt => s_fail fun v hv hv0 hv1 => ?_)
  refine fin v hv (fun q => ?_) ?_
  · by_cases h0 : u.1 61 = 0
    · have := hv0 (e61.trans h0); omega
    · have := hv1 (fun y => h0 (e61.symm.trans y))
      rw [this] at q
      exact absurd (e61.symm.trans q) h0
  · by_cases h0 : u.1 61 = 0
    · exact Or.inr ⟨h0, hv0 (e61.trans h0)⟩
    · have := hv1 (fun y => h0 (e61.symm.trans y))
      rw [this]
      exact Or.inl e61
theorem sz_eq {u w : iST} (hy : ∀ g, g ≠ 70 → w.2.1 g = u.2.1 g) (x : Int) : sz w x = sz u x := by
  unfold sz
  rw [hy 0 (by decide), hy 3 (by decide)]
theorem g_made1 {f a : Int} {Q : Int → iST → Prop} {u : iST} (hG : GI u) (ha : IsT u a) (f0 : 10 ≤ f) (f1 : f ≤ 16) (h8 : u.1 8 + 2 ≤ 452000) (hq : ∀ t v, MP u f 1 (sz u a) t v → el v (v.2.1 1 t) 0 = a → Q t v) : w_made f a (-1) (-1) Q u := by
  have h44 := hG.1.1
  have h71 := hG.2.2.2
  unfold w_made
  refine rd_i fun _ => s_build (by omega) (by omega) (br_y rfl ?_)
  unfold w_made_21
  refine br_y rfl ?_
  rw [h71]
  have hy : ∀ g, g ≠ 70 → (iI (iA u 70 0 a) 71 (0 + 1)).2.1 g = u.2.1 g := fun g hg => if_neg hg
  have e0 : (iI (iA u 70 0 a) 71 (0 + 1)).2.1 70 0 = a := rfl
  refine g_made33 (n := 1) hG (fun k hk => if_neg hk) hy rfl rfl (by decide) (fun i hi => ?_) (by omega) (by omega) (Ar_base (by omega) f1 (Or.inr (Or.inr ⟨f0, rfl⟩))) (by omega) fun t v hv he => hq t v ?_ ?_
  · have : i = 0 := by omega
    subst this
    exact ha
  · have e : sumB (iI (iA u 70 0 a) 71 (0 + 1)) 0 1 = sz u a := by
      show sz (iI (iA u 70 0 a) 71 (0 + 1)) a + 0 = _
      rw [sz_eq hy]; omega
    rw [e] at hv
    exact hv
  · exact he 0 (by decide)
theorem g_made2 {f a b : Int} {Q : Int → iST → Prop} {u : iST} (hG : GI u) (ha : IsT u a) (hb : IsT u b) (f0 : 4 ≤ f) (f1 : f ≤ 9) (h8 : u.1 8 + 3 ≤ 452000) (hq : ∀ t v, MP u f 2 (sz u a + sz u b) t v → el v (v.2.1 1 t) 0 = a → el v (v.2.1 1 t) 1 = b → Q t v) : w_made f a b (-1) Q u := by
  have h44 := hG.1.1
  have h71 := hG.2.2.2
  have hbr := hb.r
  unfold w_made
  refine rd_i fun _ => s_build (by omega) (by omega) (br_n (by omega) (s_build (show 0 ≤ u.1 71 + 1 by omega) (show u.1 71 + 1 < 2400 by omega) ?_))
  unfold w_made_21
  refine br_y rfl ?_
  show w_made_33 Q f (u.1 71) (iI (iA (iI (iA u 70 (u.1 71) a) 71 (u.1 71 + 1)) 70 (u.1 71 + 1) b) 71 (u.1 71 + 1 + 1))
  rw [h71]
  generalize hw : iI (iA (iI (iA u 70 0 a) 71 (0 + 1)) 70 (0 + 1) b) 71 (0 + 1 + 1) = w
  have hy : ∀ g, g ≠ 70 → w.2.1 g = u.2.1 g := fun g hg => by rw [← hw]; exact (if_neg hg).trans (if_neg hg)
  have hx : ∀ k, k ≠ 71 → w.1 k = u.1 k := fun k hk => by rw [← hw]; exact (if_neg hk).trans (if_neg hk)
  have e0 : w.2.1 70 0 = a := by rw [← hw]; rfl
  have e1 : w.2.1 70 1 = b := by rw [← hw]; rfl
  refine g_made33 (n := 2) hG hx hy (by rw [← hw]; rfl) (by rw [← hw]; rfl) (by decide) (fun i hi => ?_) (by omega) (by omega) (Ar_base (by omega) (by omega) (Or.inr (Or.inl ⟨f0, f1, rfl⟩))) (by omega) fun t v hv he => hq t v ?_ ?_ ?_
  · rcases (show i = 0 ∨ i = 1 by omega) with rfl | rfl
    · rw [show ((0 : Nat) : Int) = 0 from rfl, e0]; exact ha
    · rw [show ((1 : Nat) : Int) = 1 from rfl, e1]; exact hb
  · have e : sumB w 0 2 = sz u a + sz u b := by
      show sz w (w.2.1 70 0) + (sz w (w.2.1 70 (0 + 1)) + 0) = _
      rw [e0, show (0 : Int) + 1 = 1 from rfl, e1, sz_eq hy, sz_eq hy]; omega
    rw [e] at hv
    exact hv
  · rw [he 0 (by decide)]; exact e0
  · rw [he 1 (by decide)]; exact e1
theorem g_made3 {a b c : Int} {Q : Int → iST → Prop} {u : iST} (hG : GI u) (ha : IsT u a) (hb : IsT u b) (hc : IsT u c) (h8 : u.1 8 + 4 ≤ 452000) (hq : ∀ t v, MP u 3 3 (sz u a + sz u b + sz u c) t v → Q t v) : w_made 3 a b c Q u := by
  have h44 := hG.1.1
  have h71 := hG.2.2.2
  have hbr := hb.r
  have hcr := hc.r
  unfold w_made
  refine rd_i fun _ => s_build (by omega) (by omega) (br_n (by omega) (s_build (show 0 ≤ u.1 71 + 1 by omega) (show u.1 71 + 1 < 2400 by omega) ?_))
  unfold w_made_21
  refine br_n (by omega) (s_build (show 0 ≤ u.1 71 + 1 + 1 by omega) (show u.1 71 + 1 + 1 < 2400 by omega) ?_)
  show w_made_33 Q 3 (u.1 71) (iI (iA (iI (iA (iI (iA u 70 (u.1 71) a) 71 (u.1 71 + 1)) 70 (u.1 71 + 1) b) 71 (u.1 71 + 1 + 1)) 70 (u.1 71 + 1 + 1) c) 71 (u.1 71 + 1 + 1 + 1))
  rw [h71]
  generalize hw : iI (iA (iI (iA (iI (iA u 70 0 a) 71 (0 + 1)) 70 (0 + 1) b) 71 (0 + 1 + 1)) 70 (0 + 1 + 1) c) 71 (0 + 1 + 1 + 1) = w
  have hy : ∀ g, g ≠ 70 → w.2.1 g = u.2.1 g := fun g hg => by rw [← hw]; exact ((if_neg hg).trans (if_neg hg)).trans (if_neg hg)
  have hx : ∀ k, k ≠ 71 → w.1 k = u.1 k := fun k hk => by rw [← hw]; exact ((if_neg hk).trans (if_neg hk)).trans (if_neg hk)
  have e0 : w.2.1 70 0 = a := by rw [← hw]; rfl
  have e1 : w.2.1 70 1 = b := by rw [← hw]; rfl
  have e2 : w.2.1 70 2 = c := by rw [← hw]; rfl
  refine g_made33 (n := 3) hG hx hy (by rw [← hw]; rfl) (by rw [← hw]; rfl) (by decide) (fun i hi => ?_) (by omega) (by omega) (Ar_base (by omega) (by omega) (Or.inl ⟨rfl, rfl⟩)) (by omega) fun t v hv he => hq t v ?_
  · rcases (show i = 0 ∨ i = 1 ∨ i = 2 by omega) with rfl | rfl | rfl
    · rw [show ((0 : Nat) : Int) = 0 from rfl, e0]; exact ha
    · rw [show ((1 : Nat) : Int) = 1 from rfl, e1]; exact hb
    · rw [show ((2 : Nat) : Int) = 2 from rfl, e2]; exact hc
  · have e : sumB w 0 3 = sz u a + sz u b + sz u c := by
      show sz w (w.2.1 70 0) + (sz w (w.2.1 70 (0 + 1)) + (sz w (w.2.1 70 (0 + 1 + 1)) + 0)) = _
      rw [e0, show (0 : Int) + 1 = 1 from rfl, show (1 : Int) + 1 = 2 from rfl, e1, e2, sz_eq hy, sz_eq hy, sz_eq hy]; omega
    rw [e] at hv
    exact hv
/-- the terms of a call -/
theorem IsT.args {u : iST} {o : Int} (h : IsT u o) (hc : 0 ≤ u.2.1 0 o ∧ u.2.1 0 o ≠ 2) : ∃ n : Nat, n ≤ 6 ∧ Ar u (u.2.1 0 o) n ∧ IsL u (u.2.1 1 o) n ∧ AllE u (IsT u) (u.2.1 1 o) n ∧ sz u o = capS (1 + sumS u (u.2.1 1 o) n) := by
  obtain ⟨c0, c1, c2⟩ := h.step
  rcases c2 with c2 | c2 | ⟨d1, d2, n, d3, d4, d5, d6, d7⟩
  · omega
  · have := c2.2.1; omega
  · refine ⟨n, d3, d4, d5, d6, ?_⟩
    unfold sz
    rw [if_pos hc, d7]
/-- a call of a BASE function: its terms -/
theorem IsT.base {u : iST} {o : Int} {n : Nat} (h : IsT u o) (h0 : 3 ≤ u.2.1 0 o) (h1 : u.2.1 0 o ≤ 16) (hn : (u.2.1 0 o = 3 ∧ n = 3) ∨ (4 ≤ u.2.1 0 o ∧ u.2.1 0 o ≤ 9 ∧ n = 2) ∨ (10 ≤ u.2.1 0 o ∧ n = 1)) : IsL u (u.2.1 1 o) n ∧ AllE u (IsT u) (u.2.1 1 o) n ∧ sz u o = capS (1 + sumS u (u.2.1 1 o) n) := by
  obtain ⟨k, a, b, c, d, e⟩ := h.args ⟨by omega, by omega⟩
  have := b.fun (Ar_base h0 h1 hn)
  subst this
  exact ⟨c, d, e⟩
/-- term i of a call, counted from 1 -/
theorem el_succ (u : iST) (o : Int) (i : Nat) : el u o (i + 1) = el u (u.2.1 1 o) i := rfl
theorem sz_arg {u : iST} (hT : TI u) {n : Nat} {l : Int} (h : AllE u (IsT u) l n) : ∀ i, i < n → sz u (el u l i) ≤ sumS u l n := by
  induction n generalizing l with
  | zero => intro i hi; omega
  | succ n ih =>
    intro i hi
    have h2 := sumS_r hT h.2
    have h1 := h.1.szr hT
    show sz u (el u l i) ≤ sz u (u.2.1 0 l) + sumS u (u.2.1 1 l) n
    cases i with
    | zero => show sz u (u.2.1 0 l) ≤ _; omega
    | succ i =>
      have := ih h.2 i (by omega)
      show sz u (el u (u.2.1 1 l) i) ≤ _
      omega
theorem g_notOf {o : Int} {Q : Int → iST → Prop} {u : iST} (hG : GI u) (ho : IsT u o) (hs : Sm u o) (h8 : u.1 8 + 2 ≤ 452000) (hq : ∀ t v, GP u v 2 → IsT v t → Sm v t → (t < u.1 8 → v.1 8 = u.1 8) → sz v t ≤ sz u o + 1 → sz u o ≤ sz v t + 1 → Q t v) : w_notOf o Q u := by
  have hT := hG.1
  have h44 := hT.1
  have hm := hT.2.1
  have hr := ho.r
  have hsz := ho.szr hT
  unfold w_notOf
  have same : ∀ t, IsT u t → Sm u t → sz u t ≤ sz u o + 1 → sz u o ≤ sz u t + 1 → Q t u := fun t ht hst h1 h2 => hq t u ((GP.rf hG).mono (by omega)) ht hst (fun _ => rfl) h1 h2
  have sym : ∀ k, 0 ≤ k → k < 44 → IsT u k ∧ sz u k = 1 := fun k k0 k1 => by
    have h9 := hT.2.2.2.2.2.2.2.2.1 k k0 k1
    exact ⟨IsT.mk ⟨k0, by omega, Or.inl (by omega)⟩, by unfold sz; rw [if_neg (by omega)]⟩
  refine s_isCallOf hr.1 (by omega) fun r _ hr2 => br_i (fun hz => br_i (fun hne => ?_) (fun he => ?_)) (fun hz => ?_)
  · refine s_isConstant hT hr.1 hr.2 fun r3 _ hr3 => br_i (fun hnc => ?_) (fun hcc => ?_)
    · refine g_made1 hG ho (by decide) (by decide) (by omega) fun t v hv _ => ?_
      obtain ⟨m1, m2, m3, m4, m5, m6, m7⟩ := hv
      refine hq t v m1 m2 m3 m6 ?_ ?_
      · rw [m5]; unfold capS; split <;> omega
      · rw [m5]; unfold capS; split <;> omega
    · have hcst := hr3.mp hcc
      have e1 : sz u o = 1 := by
        unfold sz
        rw [if_neg]
        intro z
        rcases hcst with y | y | y | y
        · omega
        · have := hT.2.2.2.2.2.2.2.2.1 0 (by decide) (by decide); rw [y] at z; omega
        · have := hT.2.2.2.2.2.2.2.2.1 1 (by decide) (by decide); rw [y] at z; omega
        · have := y.2.1; omega
      have s0 := sym 0 (by decide) (by decide)
      exact same 0 s0.1 (fun _ => by rw [s0.2]; decide) (by omega) (by omega)
  · have s1 := sym 1 (by decide) (by decide)
    have he : o = 0 := by omega
    have s0 := sym 0 (by decide) (by decide)
    rw [← he] at s0
    exact same 1 s1.1 (fun _ => by rw [s1.2]; decide) (by omega) (by omega)
  · obtain ⟨q1, q2⟩ := hr2.mp hz
    obtain ⟨b1, b2, b3⟩ := ho.base (n := 1) (by omega) (by omega) (Or.inr (Or.inr ⟨by omega, rfl⟩))
    have p1 := hT.pair hr.1 hr.2 q1
    have ht := b2.1
    have htr := ht.szr hT
    have esum : sumS u (u.2.1 1 o) 1 = sz u (u.2.1 0 (u.2.1 1 o)) := by show sz u (u.2.1 0 (u.2.1 1 o)) + 0 = _; omega
    have hle : sz u (u.2.1 0 (u.2.1 1 o)) ≤ sz u o ∧ sz u o ≤ sz u (u.2.1 0 (u.2.1 1 o)) + 1 := by
      rw [b3, esum]; unfold capS; split <;> omega
    refine bd_i hr.1 (by omega) (rd_i fun _ => bd_i p1.2.1 (by omega) (rd_i fun _ => same _ ht (fun z => ?_) (by omega) (by omega)))
    have := hs z
    omega
