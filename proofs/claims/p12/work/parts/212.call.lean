/-! calls are made of what was built -/
def sumB (u : iST) : Int → Nat → Int
  | _, 0 => 0
  | b, n + 1 => sz u (u.2.1 70 b) + sumB u (b + 1) n
theorem IsL_uniq {u : iST} (hT : TI u) : ∀ {n m : Nat} {l : Int}, IsL u l n → IsL u l m → n = m
  | 0, 0, _, _, _ => rfl
  | 0, m + 1, l, h, g => by
    have h : l = 0 := h
    have h9 := hT.2.2.2.2.2.2.2.2.1 0 (by decide) (by decide)
    have := g.2.2.1
    rw [h] at this
    omega
  | n + 1, 0, l, h, g => by
    have g : l = 0 := g
    have h9 := hT.2.2.2.2.2.2.2.2.1 0 (by decide) (by decide)
    have := h.2.2.1
    rw [g] at this
    omega
  | n + 1, m + 1, _, h, g => by rw [IsL_uniq hT h.2.2.2 g.2.2.2]
theorem el_ext {u v : iST} (hE : Ext u v) : ∀ {n : Nat} {l : Int}, IsL u l n → ∀ i, i < n → el v l i = el u l i
  | n + 1, l, ⟨a, b, _, d⟩, 0, _ => (hE.2.1 l a b).1
  | n + 1, l, ⟨a, b, _, d⟩, i + 1, hi => by
    show el v (v.2.1 1 l) i = el u (u.2.1 1 l) i
    rw [(hE.2.1 l a b).2.1]
    exact el_ext hE d i (by omega)
theorem AllE.el {u : iST} {P : Int → Prop} : ∀ {n : Nat} {l : Int}, AllE u P l n → ∀ i, i < n → P (el u l i)
  | n + 1, _, ⟨a, _⟩, 0, _ => a
  | n + 1, _, ⟨_, b⟩, i + 1, hi => AllE.el b i (by omega)
theorem sumB_ext {u v : iST} (h : ExtT u v) (h70 : v.2.1 70 = u.2.1 70) : ∀ {n : Nat} {b : Int}, (∀ i : Nat, i < n → IsT u (u.2.1 70 (b + i))) → sumB v b n = sumB u b n
  | 0, _, _ => rfl
  | n + 1, b, hi => by
    show sz v (v.2.1 70 b) + sumB v (b + 1) n = sz u (u.2.1 70 b) + sumB u (b + 1) n
    have h0 := hi 0 (by omega)
    rw [show b + ((0 : Nat) : Int) = b from by omega] at h0
    rw [h70, h.szx h0, sumB_ext h h70 (fun i hi2 => by
      have := hi (i + 1) (by omega)
      rw [show b + ((i + 1 : Nat) : Int) = b + 1 + i from by omega] at this
      exact this)]
theorem sumB_r {u : iST} (hT : TI u) : ∀ {n : Nat} {b : Int}, (∀ i : Nat, i < n → IsT u (u.2.1 70 (b + i))) → (n : Int) ≤ sumB u b n ∧ sumB u b n ≤ 30000 * n
  | 0, _, _ => ⟨by show (0 : Int) ≤ 0; omega, by show (0 : Int) ≤ _; omega⟩
  | n + 1, b, hi => by
    have h0 := hi 0 (by omega)
    rw [show b + ((0 : Nat) : Int) = b from by omega] at h0
    have h1 := h0.szr hT
    have h2 := sumB_r hT (n := n) (b := b + 1) (fun i hi2 => by
      have := hi (i + 1) (by omega)
      rw [show b + ((i + 1 : Nat) : Int) = b + 1 + i from by omega] at this
      exact this)
    show ((n + 1 : Nat) : Int) ≤ sz u (u.2.1 70 b) + sumB u (b + 1) n ∧ sz u (u.2.1 70 b) + sumB u (b + 1) n ≤ 30000 * ((n + 1 : Nat) : Int)
    omega
theorem sumB_snoc {u : iST} : ∀ {n : Nat} {b : Int}, sumB u b (n + 1) = sumB u b n + sz u (u.2.1 70 (b + n))
  | 0, b => by
    show sz u (u.2.1 70 b) + 0 = 0 + sz u (u.2.1 70 (b + ((0 : Nat) : Int)))
    rw [show b + ((0 : Nat) : Int) = b from by omega]; omega
  | n + 1, b => by
    show sz u (u.2.1 70 b) + sumB u (b + 1) (n + 1) = sz u (u.2.1 70 b) + sumB u (b + 1) n + sz u (u.2.1 70 (b + ((n + 1 : Nat) : Int)))
    rw [sumB_snoc (n := n) (b := b + 1), show b + ((n + 1 : Nat) : Int) = b + 1 + n from by omega]
    omega
def CPost (u : iST) (f : Int) (n : Nat) (b : Int) (t : Int) (v : iST) : Prop := TI v ∧ ExtT u v ∧ Fx fT u v ∧ v.1 8 ≤ u.1 8 + n + 1 ∧ v.1 6 = u.1 6 ∧ v.1 11 = u.1 11 ∧ IsT v t ∧ v.2.1 0 t = f ∧ sz v t = capS (1 + sumB u b n) ∧ (t < u.1 8 → v.1 8 = u.1 8) ∧ IsL v (v.2.1 1 t) n ∧ (∀ i, i < n → el v (v.2.1 1 t) i = u.2.1 70 (b + i)) ∧ ∀ i, i < n → u.2.1 70 (b + i) < t
theorem g_callFrom {f b : Int} {n : Nat} {Q : Int → iST → Prop} {u : iST} (hT : TI u) (hD : DI u) (b0 : 0 ≤ b) (hb : u.1 71 = b + n) (hbm : u.1 71 ≤ 2400) (hn : n ≤ 6) (hI : ∀ i : Nat, i < n → IsT u (u.2.1 70 (b + i))) (f0 : 0 ≤ f) (f1 : f < u.1 8) (ha : Ar u f n) (h8 : u.1 8 + n + 1 ≤ 452000) (hq : ∀ t v, CPost u f n b t v → Q t v) : w_callFrom f b Q u := by
  have h44 := hT.1
  have hf2 := (ha.r hD f0).1
  unfold w_callFrom
  refine rd_i fun _ => ov_i (by omega) (by omega) ?_
  unfold w_callFrom_13
  refine lf5 (B := fun R x1 x2 x3 x4 x5 u => w_callFrom_13b R Q x1 x2 x3 x4 x5 u) (fun x1 x2 x3 x4 x5 v => x1 = f ∧ x2 = b ∧ ∃ m : Nat, m ≤ n ∧ x5 = u.1 71 - 1 - m ∧ Grow u v m 0 ∧ IsL v x3 m ∧ AllE v (IsT v) x3 m ∧ (∀ i, i < m → el v x3 i = u.2.1 70 (x5 + 1 + i)) ∧ x4 = 1 + sumB u (x5 + 1) m ∧ sumS v x3 m = sumB u (x5 + 1) m ∧ (x3 < u.1 8 → v.1 8 = u.1 8) ∧ 0 ≤ x3 ∧ x3 < v.1 8 ∧ ∀ i, i < m → u.2.1 70 (x5 + 1 + i) < x3) (fun _ _ _ _ x5 _ => (x5 + 1).toNat) ?_ ⟨rfl, rfl, 0, by omega, by omega, (Grow.rf hT).mono (by omega) (by omega), rfl, trivial, fun i hi => by omega, rfl, rfl, fun _ => rfl, Int.le_refl _, by omega, fun i hi => by omega⟩
  intro x1 x2 x3 x4 x5 v hIv R ih
  obtain ⟨rfl, rfl, m, p1, p2, p3, p4, p5, p6, p7, p8, p9, p10, p11, p12⟩ := hIv
  have hTv := p3.1
  have hEv := p3.extT
  have g8 : v.1 8 ≤ u.1 8 + m := p3.2.2.2.2.1
  have g8b : u.1 8 ≤ v.1 8 := p3.2.1.1.1
  have v70 : v.2.1 70 = u.2.1 70 := fx_a p3.2.2.2.1 70 rfl
  unfold w_callFrom_13b
  refine br_i (fun hc => ?_) (fun hc => ?_)
  · have em : m = n := by omega
    subst em
    have e5 : x5 + 1 = x2 := by omega
    rw [e5] at p6 p7 p8 p12
    refine g_pair hTv (by omega) f0 (by omega) p10 p11 fun t w hg t0 t1 a1 a2 a3 => ?_
    have w8 : w.1 8 ≤ v.1 8 + 1 := hg.2.2.2.2.1
    have w8b : v.1 8 ≤ w.1 8 := hg.2.1.1.1
    have hEw : ExtT u w := hEv.tr hT hg.extT
    have hx3w : IsL w x3 m := p4.ext hTv hg.2.1
    have hAw : AllE w (IsT w) x3 m := (p5.ext hg.2.1 p4).imp (fun y hy => hy.ext hTv hg.extT)
    have hsw : sumS w x3 m = sumB u x2 m := (sumS_ext hg.2.1 hg.extT.2.1 p4 (p5.imp fun _ h => h.w)).trans p8
    have hpw := hg.1.pair t0 t1 (by omega)
    have hsr := sumS_r hTv p5
    have fin : ∀ x, x = capS (1 + sumB u x2 m) → w_callFrom_84 Q t t x w := by
      intro x hx
      unfold w_callFrom_84
      refine bd_i t0 (by have := hg.1.2.1; omega) (sw_i ?_)
      generalize hz : iA w 3 t x = z
      have z3 : ∀ k, z.2.1 3 k = if k = t then x else w.2.1 3 k := fun k => by rw [← hz]; rfl
      have zg : ∀ g, g ≠ 3 → z.2.1 g = w.2.1 g := fun g hg3 => by rw [← hz]; exact if_neg hg3
      have zs : z.1 = w.1 := by rw [← hz]; rfl
      have zL : z.2.2 = w.2.2 := by rw [← hz]; rfl
      have zT : TI z := by rw [← hz]; exact hg.1
      have zE : Ext w z := by rw [← hz]; exact Ext.rf w
      have zS : SameF w z := ⟨by rw [zs], zg 36 (by decide), zg 37 (by decide), by rw [zs], by rw [zs]⟩
      have hxt : ∀ y, IsW w y → y = t → w.2.1 3 t = x := by
        intro y hy e
        subst e
        obtain ⟨c0, c1, c2⟩ := hy.step
        rcases c2 with c2 | c2 | ⟨d1, d2, k, d3, d5, d6, d7⟩
        · omega
        · have := c2.2.1; omega
        · rw [a2] at d5 d6 d7
          have ek := IsL_uniq hg.1 d5 hx3w
          subst ek
          rw [d7, hsw, hx]
      have zEx : ExtT w z := ⟨zE, fun y hy => by
        rw [z3]
        split
        · next e => rw [e]; exact (hxt y hy e).symm
        · rfl, fun _ _ _ => zS.ar⟩
      have zsz : sz z t = x := by
        unfold sz
        rw [zg 0 (by decide), a1, if_pos ⟨f0, by omega⟩, z3, if_pos rfl]
      have hargs : AllE z (IsT z) x3 m := (hAw.ext zE hx3w).imp (fun y hy => hy.ext hg.1 zEx)
      have hLz : IsL z x3 m := hx3w.ext hg.1 zE
      have e1 : z.2.1 1 t = x3 := by rw [zg 1 (by decide)]; exact a2
      have e0 : z.2.1 0 t = x1 := by rw [zg 0 (by decide)]; exact a1
      have htz : IsT z t := by
        refine IsT.mk ⟨t0, by rw [zs]; exact t1, Or.inr (Or.inr ⟨by rw [e0]; exact f0, by rw [e0]; omega, m, hn, by rw [e0]; exact (hEw.tr hT zEx).2.2 _ _ f0 ha, by rw [e1]; exact hLz, by rw [e1]; exact hargs, ?_⟩)⟩
        rw [z3, if_pos rfl, e1, sumS_ext zE zEx.2.1 hx3w (hAw.imp fun _ h => h.w), hsw, hx]
      refine hq t z ⟨zT, hEw.tr hT zEx, ?_, by rw [zs]; omega, ?_, ?_, htz, e0, by rw [zsz, hx], fun ht => ?_, by rw [e1]; exact hLz, fun i hi => ?_, fun i hi => ?_⟩
      · refine (p3.2.2.2.1.tr hg.2.2.2.1).tr ?_
        rw [← hz]
        exact Fx_A (k := 3) rfl
      · rw [zs]
        have c1 := hg.2.2.2.2.2.1; have c2 := p3.2.2.2.2.2.1; have c3 := hg.2.1.1.2.1; have c4 := p3.2.1.1.2.1
        omega
      · rw [zs, hg.2.2.2.2.2.2, p3.2.2.2.2.2.2]
      · rw [zs]
        have hx3 : x3 < u.1 8 := by omega
        have ev := p9 hx3
        have htv : t < v.1 8 := by omega
        have ex := hg.2.1.2.1 t t0 htv
        have := a3 t t0 htv (by rw [← ex.1]; exact a1) (by rw [← ex.2.1]; exact a2)
        rw [this.1]
        exact ev
      · rw [e1, el_ext (hg.2.1.tr zE) p4 i hi, p6 i hi]
      · have := p12 i hi
        omega
    have cap1 : 1 + sumB u x2 m = x4 := p7.symm
    refine br_i (fun hd => fin x4 (by rw [cap1]; unfold capS; rw [if_neg (by omega)])) (fun hd => fin 30000 (by rw [cap1]; unfold capS; rw [if_pos (by omega)]))
  · have hmn : m < n := by omega
    obtain ⟨i5, hi5⟩ : ∃ i5 : Nat, x5 = x2 + i5 := ⟨(x5 - x2).toNat, by omega⟩
    have hb5 := hI i5 (by omega)
    rw [← hi5] at hb5
    have hb5v : IsT v (u.2.1 70 x5) := hb5.ext hT hEv
    have hszr := hb5.szr hT
    have hsb : sumS v x3 m ≤ 30000 * m := (sumS_r hTv p5).2
    have hsb0 : (m : Int) ≤ sumS v x3 m := (sumS_r hTv p5).1
    refine bd_i (by omega) (by omega) (rd_i fun _ => ?_)
    rw [v70]
    refine s_sizeOf hb5.r.1 (by have := hb5.r.2; have := hT.2.1; omega) fun _ => ?_
    have esz : sz v (u.2.1 70 x5) = sz u (u.2.1 70 x5) := hEv.szx hb5
    rw [esz]
    refine ov_i (by omega) (by omega) (bd_i (by omega) (by omega) (rd_i fun _ => ?_))
    rw [v70]
    refine g_pair hTv (by omega) hb5.r.1 (by have := hb5.r.2; omega) p10 p11 fun t w hg t0 t1 a1 a2 a3 => ov_i (by omega) (by omega) ?_
    have w8b : v.1 8 ≤ w.1 8 := hg.2.1.1.1
    have hLw : IsL w x3 m := p4.ext hTv hg.2.1
    have hAw : AllE w (IsT w) x3 m := (p5.ext hg.2.1 p4).imp (fun y hy => hy.ext hTv hg.extT)
    have hpw := hg.1.pair t0 t1 (by rw [a1]; exact hb5.r.1)
    have esb : sumB u (x5 + -1 + 1) (m + 1) = sz u (u.2.1 70 x5) + sumB u (x5 + 1) m := by
      rw [show x5 + -1 + 1 = x5 from by omega]; rfl
    refine ih _ _ _ _ _ _ ⟨rfl, rfl, m + 1, by omega, by omega, (p3.tr hg (by omega)).mono (by omega) (by omega), ⟨t0, t1, by rw [a1]; exact hb5.r.1, by rw [a2]; exact hLw⟩, ⟨by rw [a1]; exact hb5v.ext hTv hg.extT, by rw [a2]; exact hAw⟩, fun i hi => ?_, ?_, ?_, fun ht => ?_, t0, t1, fun i hi => ?_⟩ (by omega)
    · cases i with
      | zero =>
        show w.2.1 0 t = u.2.1 70 (x5 + -1 + 1 + ((0 : Nat) : Int))
        rw [a1, show x5 + -1 + 1 + ((0 : Nat) : Int) = x5 from by omega]
      | succ i =>
        show el w (w.2.1 1 t) i = _
        rw [a2, el_ext hg.2.1 p4 i (by omega), p6 i (by omega), show x5 + -1 + 1 + ((i + 1 : Nat) : Int) = x5 + 1 + i from by omega]
    · rw [esb]; omega
    · rw [esb]
      show sz w (w.2.1 0 t) + sumS w (w.2.1 1 t) m = _
      rw [a1, a2, sumS_ext hg.2.1 hg.extT.2.1 p4 (p5.imp fun _ h => h.w), p8, hg.extT.szx hb5v, esz]
    · have hx3 : x3 < u.1 8 := by omega
      have ev := p9 hx3
      have htv : t < v.1 8 := by omega
      have ex := hg.2.1.2.1 t t0 htv
      have := a3 t t0 htv (by rw [← ex.1]; exact a1) (by rw [← ex.2.1]; exact a2)
      rw [this.1]
      exact ev
    · cases i with
      | zero =>
        rw [show x5 + -1 + 1 + ((0 : Nat) : Int) = x5 from by omega]
        omega
      | succ i =>
        rw [show x5 + -1 + 1 + ((i + 1 : Nat) : Int) = x5 + 1 + i from by omega]
        have := p12 i (by omega)
        omega
