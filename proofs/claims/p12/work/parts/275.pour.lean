/-! clauses are poured -/
def Cz (v : iST) (c : Int) : Prop := 0 ≤ v.2.1 146 c ∧ v.2.1 146 c ≤ 30 ∧ (∀ i, 0 ≤ i → i < v.2.1 146 c → TJ v (v.2.1 145 (30 * c + i))) ∧ sumT v (fun i => v.2.1 145 (30 * c + i)) (v.2.1 146 c).toNat ≤ 400
theorem Cz.ext {u v : iST} (hT : TI u) (h : ExtT u v) {c : Int} (e6 : v.2.1 146 c = u.2.1 146 c) (e5 : ∀ i, 0 ≤ i → i < 30 → v.2.1 145 (30 * c + i) = u.2.1 145 (30 * c + i)) (hc : Cz u c) : Cz v c := by
  obtain ⟨a, b, d, f⟩ := hc
  unfold Cz
  rw [e6]
  refine ⟨a, b, fun i i0 i1 => by rw [e5 i i0 (by omega)]; exact (d i i0 i1).ext hT h, ?_⟩
  rw [sumT_ext h (r := fun i => u.2.1 145 (30 * c + i)) (fun i hi => ⟨(d i (by omega) (by omega)).1, e5 i (by omega) (by omega)⟩)]
  exact f
/-- a state in which a clause is drafted -/
def CD (u a : iST) (c e k : Int) : Prop := LZ u a c e ∧ DR a ∧ a.1 122 ≤ k
theorem CD.mono {u a : iST} {c e k c' e' k' : Int} (h : CD u a c e k) (hc : c ≤ c') (he : e ≤ e') (hk : k ≤ k') : CD u a c' e' k' := ⟨h.1.mono hc he, h.2.1, by have := h.2.2; omega⟩
theorem CD.gp {u a w : iST} {c e k d : Int} (hu : TI u) (h : CD u a c e k) (g : GP a w d) : CD u w (c + d) e k := ⟨h.1.gp hu g, h.2.1.gp h.1.1.1.1 g, by rw [fx_s g.2.2.1 122 rfl]; exact h.2.2⟩
theorem CD.ep {u a w : iST} {c e k d d' : Int} (hu : TI u) (h : CD u a c e k) (g : EP a w d d') (g60 : w.1 60 = a.1 60) : CD u w (c + d) (e + d') k := ⟨h.1.ep hu g g60, h.2.1.keep h.1.1.1.1 g.2.1 (fx_s g.2.2.1 122 rfl) (fx_a g.2.2.1 121 rfl) (fun z => by rw [fx_s g.2.2.1 61 rfl] at z; exact z), by rw [fx_s g.2.2.1 122 rfl]; exact h.2.2⟩
theorem CD.fz {u a w : iST} {c e k : Int} (hu : TI u) (h : CD u a c e k) (hF : Fx fZ a w) (hL : w.2.2 = a.2.2) : CD u w c e k ∧ ExtT a w := by
  obtain ⟨l1, l2⟩ := h.1.same hu (hF.mono fZ_Lq) hL (fx_s hF 117 rfl)
  exact ⟨⟨l1, h.2.1.fz h.1.1.1.1 l2 hF, by rw [fx_s hF 122 rfl]; exact h.2.2⟩, l2⟩
theorem CD.cz {u a : iST} {c e k : Int} (hu : TI u) (h : CD u a c e k) {x : Int} (hc : Cz u x) : Cz a x := hc.ext hu h.1.ex (by rw [fx_a h.1.fx 146 rfl]) (fun i _ _ => by rw [fx_a h.1.fx 145 rfl])
theorem g_putCD {u a : iST} {c e k x : Int} {Q : iST → Prop} (hu : TI u) (h : CD u a c e k) (hk : k < 1200) (hx : IsT a x) (hs : Sm a x) (hq : ∀ y, CD u y c e (k + 1) → ExtT a y → Q y) : w_put x Q a := by
  obtain ⟨h1, h2, h3⟩ := h
  refine g_put h1.1.1.1 h2 (by omega) hx hs fun y y1 y2 y3 y4 => ?_
  obtain ⟨l1, l2⟩ := h1.same hu (y1.mono (fun k hk => by simp [fLq, fQ] at hk; simp [fD]; omega)) y2 (fx_s y1 117 rfl)
  exact hq y ⟨l1, y3, by omega⟩ l2
theorem g_pour {u a : iST} {c e k x but : Int} {Q : iST → Prop} (hu : TI u) (h : CD u a c e k) (hk : k + 30 ≤ 1200) (x0 : 0 ≤ x) (x1 : x < 349) (hc : Cz u x) (hq : ∀ y, CD u y c e (k + 30) → ExtT a y → Q y) : w_pour x but Q a := by
  have aT := h.1.1.1.1
  unfold w_pour w_pour_2
  refine lf3 (B := fun R y1 y2 y3 u => w_pour_2b R Q y1 y2 y3 u) (fun y1 y2 y3 v => x = y1 ∧ but = y2 ∧ 0 ≤ y3 ∧ CD u v c e (k + y3) ∧ y3 ≤ 30 ∧ ExtT a v) (fun _ _ y3 _ => (30 - y3).toNat) ?_ ⟨rfl, rfl, Int.le_refl _, h.mono (Int.le_refl _) (Int.le_refl _) (by omega), by decide, ExtT.rf a⟩
  intro y1 y2 y3 v hI R ih
  obtain ⟨rfl, rfl, p1, p2, p3, p4⟩ := hI
  have cz := p2.cz hu hc
  obtain ⟨z1, z2, z3, z4⟩ := cz
  unfold w_pour_2b
  refine bd_i x0 (by omega) (rd_i fun _ => br_i (fun _ => hq v (p2.mono (Int.le_refl _) (Int.le_refl _) (by omega)) p4) fun hlt => ov_i (by omega) (by omega) (ov_i (by omega) (by omega) (bd_i (by omega) (by omega) (rd_i fun _ => br_i (fun _ => ov_i (by omega) (by omega) (ih _ _ _ _ ⟨rfl, rfl, by omega, p2.mono (Int.le_refl _) (Int.le_refl _) (by omega), by omega, p4⟩ (by omega))) fun _ => ov_i (by omega) (by omega) (ov_i (by omega) (by omega) (bd_i (by omega) (by omega) (rd_i fun _ => ?_)))))))
  have ht := z3 y3 p1 (by omega)
  exact g_putCD hu p2 (by omega) ht.1 (fun _ => ht.2) fun y hy hE => ov_i (by omega) (by omega) (ih _ _ _ _ ⟨rfl, rfl, by omega, hy.mono (Int.le_refl _) (Int.le_refl _) (by omega), by omega, p4.tr aT hE⟩ (by omega))
theorem g_has {a : iST} {x y : Int} {Q : Int → iST → Prop} (x0 : 0 ≤ x) (x1 : x < 349) (hc : Cz a x) (hq : ∀ b, bz b → Q b a) : w_has x y Q a := by
  obtain ⟨z1, z2, z3, z4⟩ := hc
  unfold w_has w_has_2
  refine lf3 (B := fun R y1 y2 y3 u => w_has_2b R Q y1 y2 y3 u) (fun y1 y2 y3 v => x = y1 ∧ y = y2 ∧ 0 ≤ y3 ∧ a = v) (fun _ _ y3 _ => (30 - y3).toNat) ?_ ⟨rfl, rfl, Int.le_refl _, rfl⟩
  intro y1 y2 y3 v hI R ih
  obtain ⟨rfl, rfl, p1, rfl⟩ := hI
  unfold w_has_2b
  exact bd_i x0 (by omega) (rd_i fun _ => br_i (fun _ => zt_0 (hq 0 (Or.inl rfl))) fun hlt => ov_i (by omega) (by omega) (ov_i (by omega) (by omega) (bd_i (by omega) (by omega) (rd_i fun _ => br_i (fun _ => ov_i (by omega) (by omega) (ih _ _ _ _ ⟨rfl, rfl, by omega, rfl⟩ (by omega))) fun _ => zt_1 (hq 1 (Or.inr rfl))))))
theorem g_beginsEqual {a : iST} {x : Int} {Q : Int → iST → Prop} (hT : TI a) (x0 : 0 ≤ x) (x1 : x < 349) (hc : Cz a x) (hq : ∀ b, bz b → (b ≠ 0 → 0 < a.2.1 146 x ∧ a.2.1 0 (a.2.1 145 (30 * x)) = 4) → Q b a) : w_beginsEqual x Q a := by
  obtain ⟨z1, z2, z3, z4⟩ := hc
  have h8 := hT.2.1
  have no : zt 0 (Q 0 a) := zt_0 (hq 0 (Or.inl rfl) (fun z => absurd rfl z))
  unfold w_beginsEqual
  refine bd_i x0 (by omega) (rd_i fun _ => br_i (fun _ => no) fun hlt => ov_i (by omega) (by omega) (bd_i (by omega) (by omega) (rd_i fun _ => ?_)))
  have ht := z3 0 (Int.le_refl _) (by omega)
  rw [show 30 * x + 0 = 30 * x from by omega] at ht
  have r := ht.1.r
  exact s_isCallOf r.1 (by omega) fun b _ hb => br_i (fun _ => no) fun hz => zt_1 (hq 1 (Or.inr rfl) (fun _ => ⟨by omega, (hb.mp hz).2⟩))
/-- the two terms of an equation -/
theorem equal_args {a : iST} (hT : TI a) {x : Int} (hx : TJ a x) (h4 : a.2.1 0 x = 4) : TJ a (el a x 1) ∧ TJ a (el a x 2) := by
  obtain ⟨n, n6, har, hl, hal⟩ := hx.args hT ⟨by omega, by omega⟩
  have en : n = 2 := har.fun (Ar_base (by omega) (by omega) (Or.inr (Or.inl ⟨by omega, by omega, rfl⟩)))
  subst en
  exact ⟨hal.el 0 (by omega), hal.el 1 (by omega)⟩
theorem g_defined {u a : iST} {c e k d : Int} {Q : iST → Prop} (hu : TI u) (h : CD u a c e k) (hC : Core a) (hk : k < 1200) (d0 : 0 ≤ d) (d1 : d < a.1 35) (hfirst : ∀ e, 0 ≤ e → e < d → a.2.1 36 e ≠ a.2.1 36 d) (h8 : a.1 8 + 20 ≤ 452000) (hq : ∀ y, CD u y (c + 10) e (k + 1) → Q y) : w_defined d Q a := by
  have hG := h.1.1.1
  have aT := hG.1
  have d40 : d < 40 := by have := hC.1.2; omega
  have Dd := hC.2.2.2.1 d d0 d1
  have h57 := hC.2.2.1
  obtain ⟨N, hN⟩ : ∃ N : Nat, a.2.1 37 d = N := ⟨(a.2.1 37 d).toNat, by have := Dd.1.1; omega⟩
  have N6 : N ≤ 6 := by have := Dd.1.2.1; omega
  have f16 := Dd.1.2.2.1
  unfold w_defined
  refine rd_i fun _ => ?_
  rw [hG.2.2.2]
  unfold w_defined_7
  refine lf3 (B := fun R y1 y2 y3 u => w_defined_7b R Q y1 y2 y3 u) (fun y1 y2 y3 v => d = y1 ∧ y2 = 0 ∧ ∃ i : Nat, y3 = i ∧ i ≤ N ∧ v.1 71 = i ∧ (∀ g, g ≠ 71 → v.1 g = a.1 g) ∧ (∀ g, g ≠ 70 → v.2.1 g = a.2.1 g) ∧ v.2.2 = a.2.2 ∧ ∀ j : Nat, j < i → v.2.1 70 j = a.2.1 38 (6 * d + j)) (fun _ _ y3 _ => (N - y3).toNat) ?_ ⟨rfl, rfl, 0, rfl, by omega, hG.2.2.2, fun _ _ => rfl, fun _ _ => rfl, rfl, fun j hj => by omega⟩
  intro y1 y2 y3 v hI R ih
  obtain ⟨rfl, rfl, i, rfl, p1, p2, p3, p4, p5, p6⟩ := hI
  have vt : ∀ g, g ≤ 11 → v.1 g = a.1 g ∧ v.2.1 g = a.2.1 g := fun g hg => ⟨p3 g (by omega), p4 g (by omega)⟩
  have vS : SameF a v := ⟨p3 35 (by decide), p4 36 (by decide), p4 37 (by decide), p3 57 (by decide), p3 58 (by decide)⟩
  have vE : ExtT a v := ExtT.same vt p5 vS
  have vT : TI v := TI_eq aT vt p5
  have v8 := (vt 8 (by decide)).1
  unfold w_defined_7b
  refine bd_i d0 d40 (rd_i fun _ => ?_)
  rw [p4 37 (by decide), hN]
  refine br_i (fun hle => bd_i d0 d40 (rd_i fun _ => ?_)) fun hlt => ov_i (by omega) (by omega) (ov_i (by omega) (by omega) (bd_i (by omega) (by omega) (rd_i fun _ => ?_)))
  · have ei : i = N := by omega
    subst ei
    have vD : DI v := hG.2.1.ext vE.1 vS
    rw [p4 36 (by decide)]
    have vI : ∀ j : Nat, j < i → IsT v (v.2.1 70 (0 + j)) := fun j hj => by
      rw [show (0 : Int) + j = j from by omega, p6 j hj]
      have q := Dd.2.2.1 j (by omega) (by omega)
      exact IsT.mk ⟨q.2.1, by rw [v8]; exact q.2.2, Or.inl (by rw [p4 0 (by decide)]; omega)⟩
    have har : Ar v (a.2.1 36 d) i := ⟨100 + d, Or.inr (Or.inr (Or.inl ⟨by omega, by rw [p3 57 (by decide)]; omega, d, d0, by rw [p3 35 (by decide)]; exact d1, by rw [p4 36 (by decide)], fun e e0 e1 => by rw [p4 36 (by decide)]; exact hfirst e e0 e1, rfl⟩)), by omega, by
      unfold Many
      rw [if_neg (by omega), if_neg (by omega), if_neg (by omega), if_neg (by omega), show 100 + d - 100 = d from by omega, p4 37 (by decide)]
      exact hN⟩
    refine g_callFrom (n := i) vT vD (Int.le_refl _) (by rw [p2]; omega) (by rw [p2]; omega) N6 vI (by omega) (by rw [v8]; exact Dd.1.2.2.2.1) har (by omega) fun t z hz => ?_
    obtain ⟨z1, z2, z3, z4, z5, z6, z7, z8, z9, z10, z11, z12, z13⟩ := hz
    refine sw_i ?_
    generalize hw : iI z 71 0 = w
    have wt : ∀ g, g ≤ 11 → w.1 g = z.1 g ∧ w.2.1 g = z.2.1 g := fun g hg => by rw [← hw]; exact ⟨if_neg (by omega), rfl⟩
    have ws : ∀ g, g ≠ 71 → w.1 g = z.1 g := fun g hg => by rw [← hw]; exact if_neg hg
    have w2 : w.2 = z.2 := by rw [← hw]; rfl
    have w71 : w.1 71 = 0 := by rw [← hw]; rfl
    have wS : SameF z w := ⟨ws 35 (by decide), by rw [w2], by rw [w2], ws 57 (by decide), ws 58 (by decide)⟩
    have wE : ExtT z w := ExtT.same wt (by rw [w2]) wS
    have aw : GP a w (i + 1) := by
      refine ⟨TI_eq z1 wt (by rw [w2]), (vE.tr aT z2).tr aT wE, fun g hg => ?_, ?_, w71, ?_, ?_, ?_, Or.inl ?_⟩
      · have hg2 : ¬ g ≤ 11 ∧ g ≠ 70 ∧ g ≠ 71 := by simp [fB] at hg; omega
        have q := z3 g (by simp [fT]; omega)
        exact ⟨(ws g hg2.2.2).trans (q.1.trans (p3 g hg2.2.2)), by rw [w2]; exact q.2.trans (p4 g hg2.2.1)⟩
      · rw [ws 69 (by decide), (z3 69 rfl).1, p3 69 (by decide)]; exact hG.2.2.1
      · rw [ws 8 (by decide)]; omega
      · rw [ws 6 (by decide), z5, p3 6 (by decide)]
      · rw [ws 11 (by decide), z6, p3 11 (by decide)]
      · rw [ws 61 (by decide), (z3 61 rfl).1, p3 61 (by decide)]
    have wD := h.gp hu aw
    have wG := aw.gi hG
    have wF := aw.2.2.1
    refine bd_i d0 d40 (rd_i fun _ => ?_)
    rw [fx_a wF 39 rfl]
    have hb : IsT w (a.2.1 39 d) := Dd.2.1.1.1.ext aT aw.2.1
    have w8 := aw.2.2.2.2.2.1
    unfold w_made2
    refine g_made2 wG (z7.ext z1 wE) hb (by decide) (by decide) (by omega) fun t2 y hy _ _ => ?_
    have yD := wD.gp hu hy.1
    exact g_putCD hu yD hk hy.2.1 hy.2.2.1 fun x hx _ => hq x (hx.mono (by omega) (Int.le_refl _) (Int.le_refl _))
  · rw [p4 38 (by decide)]
    refine s_build (by omega) (by omega) (ov_i (by omega) (by omega) (ih _ _ _ _ ⟨rfl, rfl, i + 1, by omega, by omega, ?_, fun g hg => ?_, fun g hg => ?_, p5, fun j hj => ?_⟩ (by omega)))
    · show v.1 71 + 1 = _
      omega
    · exact (if_neg hg).trans (p3 g hg)
    · exact (if_neg hg).trans (p4 g hg)
    · show (if (j : Int) = v.1 71 then a.2.1 38 (6 * d + i) else v.2.1 70 j) = _
      by_cases ej : j = i
      · subst ej; rw [if_pos (by omega)]
      · rw [if_neg (by omega)]; exact p6 j (by omega)
