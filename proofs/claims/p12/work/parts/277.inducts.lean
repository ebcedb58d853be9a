/-! a proof by induction -/
theorem lf8 {B : (Int → Int → Int → Int → Int → Int → Int → Int → iST → Prop) → Int → Int → Int → Int → Int → Int → Int → Int → iST → Prop} (I : Int → Int → Int → Int → Int → Int → Int → Int → iST → Prop) (μ : Int → Int → Int → Int → Int → Int → Int → Int → iST → Nat) (hs : ∀ (x0 x1 x2 x3 x4 x5 x6 x7 : Int) (u : iST), I x0 x1 x2 x3 x4 x5 x6 x7 u → ∀ R : Int → Int → Int → Int → Int → Int → Int → Int → iST → Prop, (∀ (y0 y1 y2 y3 y4 y5 y6 y7 : Int) (v : iST), I y0 y1 y2 y3 y4 y5 y6 y7 v → μ y0 y1 y2 y3 y4 y5 y6 y7 v < μ x0 x1 x2 x3 x4 x5 x6 x7 u → R y0 y1 y2 y3 y4 y5 y6 y7 v) → B R x0 x1 x2 x3 x4 x5 x6 x7 u) {x0 x1 x2 x3 x4 x5 x6 x7 : Int} {u : iST} (h : I x0 x1 x2 x3 x4 x5 x6 x7 u) : ∀ R : Int → Int → Int → Int → Int → Int → Int → Int → iST → Prop, (∀ (x0 x1 x2 x3 x4 x5 x6 x7 : Int) (u : iST), B R x0 x1 x2 x3 x4 x5 x6 x7 u → R x0 x1 x2 x3 x4 x5 x6 x7 u) → R x0 x1 x2 x3 x4 x5 x6 x7 u := by
  intro R hR
  have key : ∀ (n : Nat) (x0 x1 x2 x3 x4 x5 x6 x7 : Int) (u : iST), I x0 x1 x2 x3 x4 x5 x6 x7 u → μ x0 x1 x2 x3 x4 x5 x6 x7 u < n → R x0 x1 x2 x3 x4 x5 x6 x7 u := by
    intro n
    induction n with
    | zero => intro x0 x1 x2 x3 x4 x5 x6 x7 u _ h; omega
    | succ n ih => intro x0 x1 x2 x3 x4 x5 x6 x7 u hI hn; exact hR x0 x1 x2 x3 x4 x5 x6 x7 u (hs x0 x1 x2 x3 x4 x5 x6 x7 u hI R (fun y0 y1 y2 y3 y4 y5 y6 y7 v hv hm => ih y0 y1 y2 y3 y4 y5 y6 y7 v hv (by omega)))
  exact key _ x0 x1 x2 x3 x4 x5 x6 x7 u h (Nat.lt_succ_self _)
theorem LZ.self {u v : iST} {c e : Int} (h : LZ u v c e) : LZ v v 0 0 := LZ.rf h.1 h.2.2.1
theorem IC.lz {b y : iST} {c k : Int} (h : IC b y c k) (h0 : b.1 117 = 0) : LZ b y c 0 := ⟨h.1.1, h.1.2.1, by rw [h.2.2.2.2.2.2.2.2]; exact h0, h.2.2.2.2.2.2.2.1⟩
theorem arg1_down {u : iST} (hT : TI u) {f t : Int} (ht : TJ u t) (h3 : u.2.1 0 t = 3) (h : AllT u (Arg1 u f) t) : AllT u (Arg1 u f) (el u t 2) ∧ AllT u (Arg1 u f) (el u t 3) := by
  obtain ⟨n, n6, har, hl, hal⟩ := ht.args hT ⟨by omega, by omega⟩
  have en : n = 3 := har.fun (Ar_base (by omega) (by omega) (Or.inl ⟨h3, rfl⟩))
  subst en
  obtain ⟨m, a, b⟩ := h.step.2 ⟨by omega, by omega⟩
  have em := IsL_uniq hT a hl
  subst em
  exact ⟨b.el 1 (by omega), b.el 2 (by omega)⟩
theorem g_inducts {u a : iST} {c e x o fo : Int} {n : Nat} {Q : Int → iST → Prop} (hu : TI u) (h : CD u a c e 0) (hCu : Core u) (hl : IsL u o n) (hn : 3 ≤ n) (hI : IndF u o n) (x0 : 0 ≤ x) (x1 : x + ((n : Int) - 3) ≤ 340) (hc : ∀ p, 0 ≤ p → p < (n : Int) - 3 → Cz u (x + p)) (hfo : TJ a fo) (h8 : u.1 8 + c + 279 * ((n : Int) - 3) + 120 * (2 * sz a fo + 3) + 1000 ≤ 452000) (hq : ∀ b y, bz b → CD u y (c + 240 + 279 * ((n : Int) - 3) + 120 * (2 * sz a fo + 3)) e 200 → Q b y) : w_inducts o x fo Q a := by
  have aT := h.1.1.1.1
  have am := aT.2.1
  have aE := h.1.ex
  have aF := h.1.fx
  have a8 := aE.1.1.1
  have a8b := h.1.e8
  have kp : ∀ {v : iST} {c e : Int}, LZ u v c e → Core v := fun hv => (hv.2.1.kp).core hu hCu
  have aC := kp h.1
  have r2 := IsL.elr hu hl 2 (by omega)
  have lr := hl.r (by have := hu.1; omega)
  obtain ⟨hTO, c0, d, N, d0, d1, d2, d3, d4, d5, d6, d7, d8⟩ := hI
  have fs := hfo.1.szr aT
  have fs2 := hfo.2
  have Dd := hCu.2.2.2.1 d d0 d1
  have d40 : d < 40 := by have := hCu.1.2; omega
  have cp := hu.pair r2.1 r2.2 c0
  unfold w_inducts
  refine s_nth aT lr.1 (by omega) (by decide) (by decide) ?_
  rw [show (2 : Int).toNat = 2 from rfl, el_ext aE.1 hl 2 (by omega)]
  generalize hcall : el u o 2 = call at *
  have ec := aE.1.2.1 _ r2.1 r2.2
  refine bd_i r2.1 (by omega) (rd_i fun _ => ?_)
  rw [ec.1]
  refine s_definition aC.1.1 aC.1.2 fun d' hd' => ?_
  have e36 : a.2.1 36 = u.2.1 36 := fx_a aF 36 rfl
  have e35 : a.1 35 = u.1 35 := fx_s aF 35 rfl
  rw [e36, e35] at hd'
  have edd : d' = d := by
    rcases hd' with ⟨_, z⟩ | ⟨z0, z1, z2, z3⟩
    · exact absurd d2 (z d d0 d1)
    · rcases Int.lt_trichotomy d' d with q | q | q
      · exact absurd (z2.trans d2.symm) (d4 d' z0 q)
      · exact q
      · exact absurd d2 (z3 d d0 q)
  subst edd
  clear hd'
  refine bd_i d0 d40 (rd_i fun _ => ?_)
  rw [fx_a aF 39 rfl]
  have hbody : TJ u (u.2.1 39 d') := ⟨Dd.2.1.1.1, Dd.2.1.2⟩
  have hba := hbody.ext hu aE
  have ebs : sz a (u.2.1 39 d') = sz u (u.2.1 39 d') := aE.szx hbody.1
  have bs := hbody.1.szr hu
  have bs2 := hbody.2
  have hapu := Dd.2.2.2.2 d3
  have hapa : AllT a (Arg1 a (u.2.1 36 d')) (u.2.1 39 d') := AllT.ext hu aE.1 (fun y y0 y1 hy => hy.ext hu aE.1 y0 y1) hbody.1.r.1 hbody.1.r.2 hapu
  refine g_pathsOf h.1.1.1 hba (by rw [ebs]; omega) fun v q1 q2 q3 q4 q5 q6 q7 _ q9 q10 => ?_
  have ecn := q10.is aT
  rw [cI_ext hu aT aE hbody] at ecn
  have vF0 := q1.2.2.1
  have vZ : LZ u v (c + 240) e := h.1.path hu q1 (by omega)
  have vD : DR v := h.2.1.keep aT q1.2.1 (fx_s vF0 122 rfl) (fx_a vF0 121 rfl) (fun z => by have := q1.2.2.2.2.2; omega)
  have vC : CD u v (c + 240) e 0 := ⟨vZ, vD, by rw [fx_s vF0 122 rfl]; exact h.2.2⟩
  have vT := vZ.1.1.1
  have avE := q1.2.1
  have uvE := vZ.ex
  have vF := vZ.fx
  have v36 : v.2.1 36 = u.2.1 36 := fx_a vF 36 rfl
  have v35 : v.1 35 = u.1 35 := fx_s vF 35 rfl
  have v37 : v.2.1 37 = u.2.1 37 := fx_a vF 37 rfl
  have hpaths : PathsOk v (v.2.1 36 d') N := PathsOk.ofDef vT d0 (by omega) (by rw [v36]; exact Dd.1.2.2.1) (kp vZ).2.2.1 (fun e e0 e1 => by rw [v36]; exact d4 e e0 e1) (by rw [v37]; exact d5) q2 q3 q4
  have hends : ∀ p, 0 ≤ p → p < v.1 126 → AllT v (Arg1 v (u.2.1 36 d')) (v.2.1 123 p) := fun p p0 p1 => by
    have hp := (q9 (AllT a (Arg1 a (u.2.1 36 d'))) (fun t ht h3 hh => arg1_down aT ht h3 hh) hapa).2 p p0 p1
    have hr := (q7 p p0 p1).1.r
    exact AllT.ext aT avE.1 (fun y y0 y1 hy => hy.ext aT avE.1 y0 y1) hr.1 hr.2 hp
  have hfv := hfo.ext aT avE
  have efs : sz v fo = sz a fo := avE.szx hfo.1
  rw [ebs] at q6
  have endj : ∀ j : Nat, j < (v.1 126).toNat → IsT v (v.2.1 123 (j : Int)) := fun j hj => (q4 j (by omega) (by omega)).1.1
  have S120 : ∀ p : Nat, (p : Int) ≤ v.1 126 → 0 ≤ sumT v (v.2.1 123) p ∧ sumT v (v.2.1 123) p ≤ 120 := fun p hp => by
    have := sumT_le vT (r := v.2.1 123) (n := p) (m := (v.1 126).toNat) (by omega) endj
    omega
  have F0 : 0 ≤ 2 * sz a fo + 3 := by omega
  have mul : ∀ s : Int, 0 ≤ s → s ≤ 120 → 0 ≤ s * (2 * sz a fo + 3) ∧ s * (2 * sz a fo + 3) ≤ 120 * (2 * sz a fo + 3) := fun s s0 s1 => ⟨Int.mul_nonneg s0 F0, Int.mul_le_mul_of_nonneg_right s1 F0⟩
  have v126 : v.1 126 = (n : Int) - 3 := by omega
  have v8 := vZ.e8
  unfold w_inducts_35
  refine lf5 (B := fun R y2 y3 y4 y5 y6 u => w_inducts_35b R Q y2 y3 y4 y5 y6 u) (fun y2 y3 y4 y5 y6 z => x = y2 ∧ fo = y3 ∧ call = y4 ∧ d' = y5 ∧ ∃ p : Nat, y6 = p ∧ (p : Int) ≤ v.1 126 ∧ CD u z (c + 240 + 279 * p + sumT v (v.2.1 123) p * (2 * sz a fo + 3)) e 200 ∧ ExtT v z ∧ z.1 126 = v.1 126 ∧ z.2.1 123 = v.2.1 123 ∧ z.2.1 124 = v.2.1 124 ∧ z.2.1 125 = v.2.1 125) (fun _ _ _ _ y6 _ => (v.1 126 - y6).toNat) ?_ ⟨rfl, rfl, rfl, rfl, 0, rfl, q2, vC.mono (by show c + 240 ≤ c + 240 + 279 * ((0 : Nat) : Int) + 0 * _; rw [Int.zero_mul]; omega) (Int.le_refl _) (by omega), ExtT.rf v, rfl, rfl, rfl, rfl⟩
  intro y2 y3 y4 y5 y6 z hI R ih
  obtain ⟨rfl, rfl, rfl, rfl, p, rfl, p1, p2, p3, p4, p5, p6, p7⟩ := hI
  have Sp := S120 p p1
  have Mp := mul _ Sp.1 Sp.2
  have zT := p2.1.1.1.1
  have zm := zT.2.1
  have hfz := hfv.ext vT p3
  have k177 : w_inducts_177 Q fo z := by
    unfold w_inducts_177
    refine sw_i ?_
    have bF : Fx fLq z (iI z 122 0) := Fx_I (k := 122) rfl
    obtain ⟨bZ, bE⟩ := p2.1.same hu bF rfl rfl
    have bD : CD u (iI z 122 0) (c + 240 + 279 * p + sumT v (v.2.1 123) p * (2 * sz a fo + 3)) e 0 := ⟨bZ, DR.none z, Int.le_refl _⟩
    have hfb := hfz.ext zT bE
    exact g_putCD hu bD (by omega) hfb.1 (fun _ => hfb.2) fun y hy _ => zt_1 (hq 1 y (Or.inr rfl) (hy.mono (by omega) (Int.le_refl _) (by omega)))
  unfold w_inducts_35b
  refine rd_i fun _ => ?_
  rw [p4]
  refine br_i (fun _ => k177) fun hlt => rd_i fun _ => br_i (fun _ => k177) fun _ => sw_i ?_
  have hp : (p : Int) < v.1 126 := by omega
  have Sp1 := S120 (p + 1) (by omega)
  have Mp1 := mul _ Sp1.1 Sp1.2
  have eSp : sumT v (v.2.1 123) (p + 1) = sumT v (v.2.1 123) p + sz v (v.2.1 123 p) := rfl
  have eMp : sumT v (v.2.1 123) (p + 1) * (2 * sz a fo + 3) = sumT v (v.2.1 123) p * (2 * sz a fo + 3) + sz v (v.2.1 123 p) * (2 * sz a fo + 3) := by rw [eSp, Int.add_mul]
  have bF : Fx fLq z (iI z 122 0) := Fx_I (k := 122) rfl
  obtain ⟨bZ, bE⟩ := p2.1.same hu bF rfl rfl
  have bDR : DR (iI z 122 0) := DR.none z
  have b122 : (iI z 122 0).1 122 = 0 := rfl
  have b126 : (iI z 122 0).1 126 = v.1 126 := p4
  have b123 : (iI z 122 0).2.1 123 = v.2.1 123 := p5
  have b124 : (iI z 122 0).2.1 124 = v.2.1 124 := p6
  have b125 : (iI z 122 0).2.1 125 = v.2.1 125 := p7
  generalize iI z 122 0 = b at *
  have bT := bZ.1.1.1
  have vbE := p3.tr vT bE
  have ubE := bZ.ex
  have bFx := bZ.fx
  have b8 := ubE.1.1.1
  have bm := bT.2.1
  have b8b := bZ.e8
  have szb : sz b (b.2.1 123 (p : Int)) = sz v (v.2.1 123 (p : Int)) := by rw [b123]; exact vbE.szx (endj p (by omega))
  have szf : sz b fo = sz a fo := by rw [vbE.szx hfv.1, efs]
  refine bd_i r2.1 (by omega) (rd_i fun _ => ?_)
  rw [(ubE.1.2.1 _ r2.1 r2.2).2.1]
  have b36 : b.2.1 36 = u.2.1 36 := fx_a bFx 36 rfl
  have bpaths : PathsOk b (b.2.1 36 d') N := by
    have := hpaths.ext vT vbE b126 b123 b124 b125
    rw [b36, ← v36]
    exact this
  refine g_inductionRowC (N := N) bZ.self.ly bDR (by omega) d0 (by rw [fx_s bFx 35 rfl]; exact d1) (by rw [fx_a bFx 37 rfl]; exact d5) (d6.ext hu ubE.1) (fun i hi => ?_) bpaths (by omega) (by rw [b126]; exact hp) ?_ (hfv.ext vT vbE) (by rw [szb, szf]; omega) fun y hy hyE => ?_
  · have ri := IsL.elr hu d6 i hi
    rw [el_ext ubE.1 d6 i hi, (ubE.1.2.1 _ ri.1 ri.2).1]
    exact d7 i hi
  · rw [b36, b123]
    have hr := (endj p (by omega)).r
    exact AllT.ext vT vbE.1 (fun y y0 y1 hy => hy.ext vT vbE.1 y0 y1) hr.1 hr.2 (hends p (by omega) hp)
  · rw [szb, szf] at hy
    have yZ := bZ.tr hu (hy.lz bZ.2.2.1)
    have y122 := hy.2.2.1
    have yC : CD u y (c + 240 + 279 * ((p + 1 : Nat) : Int) + sumT v (v.2.1 123) (p + 1) * (2 * sz a fo + 3)) e 200 := ⟨yZ.mono (by omega) (by omega), hy.2.1, by omega⟩
    have y126 : y.1 126 = v.1 126 := by rw [hy.2.2.2.1, b126]
    have y123 : y.2.1 123 = v.2.1 123 := by rw [hy.2.2.2.2.1, b123]
    have y124 : y.2.1 124 = v.2.1 124 := by rw [hy.2.2.2.2.2.1, b124]
    have y125 : y.2.1 125 = v.2.1 125 := by rw [hy.2.2.2.2.2.2.1, b125]
    have vyE := vbE.tr vT hyE
    -- the rows are compared
    have cmp : ∀ s, CD u s (c + 240 + 279 * ((p + 1 : Nat) : Int) + sumT v (v.2.1 123) (p + 1) * (2 * sz a fo + 3)) e 200 → ExtT v s → s.1 126 = v.1 126 → s.2.1 123 = v.2.1 123 → s.2.1 124 = v.2.1 124 → s.2.1 125 = v.2.1 125 → w_inducts_79 R Q x fo call d' p 0 s := by
      intro s s1 s2 s3 s4 s5 s6
      have nxt : ov ((p : Int) + 1) (R x fo call d' ((p : Int) + 1) s) := ov_i (by omega) (by omega) (ih _ _ _ _ _ _ ⟨rfl, rfl, rfl, rfl, p + 1, by omega, by omega, s1, s2, s3, s4, s5, s6⟩ (by omega))
      have cz := s1.cz hu (hc p (by omega) (by omega))
      obtain ⟨g1, g2, g3, g4⟩ := cz
      unfold w_inducts_79
      refine lf6 (B := fun R79 y2 y3 y4 y5 y6 y7 u => w_inducts_79b R R79 Q y2 y3 y4 y5 y6 y7 u) (fun y2 y3 y4 y5 y6 y7 s' => x = y2 ∧ fo = y3 ∧ call = y4 ∧ d' = y5 ∧ (p : Int) = y6 ∧ 0 ≤ y7 ∧ s = s') (fun _ _ _ _ _ y7 _ => (30 - y7).toNat) ?_ ⟨rfl, rfl, rfl, rfl, rfl, Int.le_refl _, rfl⟩
      intro y2 y3 y4 y5 y6 y7 s' hI2 R79 ih2
      obtain ⟨rfl, rfl, rfl, rfl, rfl, t1, rfl⟩ := hI2
      unfold w_inducts_79b
      refine ov_i (by omega) (by omega) (bd_i (by omega) (by omega) (rd_i fun _ => br_i (fun _ => nxt) fun hlt7 => rd_i fun _ => br_i (fun _ => nxt) fun _ => ?_))
      have d122 := s1.2.2
      unfold w_inducts_106
      refine lf8 (B := fun R106 y2 y3 y4 y5 y6 y7 y8 y9 u => w_inducts_106b R R79 R106 Q y2 y3 y4 y5 y6 y7 y8 y9 u) (fun y2 y3 y4 y5 y6 y7' y8 y9 s' => x = y2 ∧ fo = y3 ∧ call = y4 ∧ d' = y5 ∧ (p : Int) = y6 ∧ y7 = y7' ∧ 0 ≤ y9 ∧ s = s') (fun _ _ _ _ _ _ _ y9 _ => (200 - y9).toNat) ?_ ⟨rfl, rfl, rfl, rfl, rfl, rfl, Int.le_refl _, rfl⟩
      intro y2 y3 y4 y5 y6 y7' y8 y9 s' hI3 R106 ih3
      obtain ⟨rfl, rfl, rfl, rfl, rfl, rfl, t2, rfl⟩ := hI3
      unfold w_inducts_106b
      refine rd_i fun _ => br_i (fun hge9 => br_i (fun _ => ov_i (by omega) (by omega) (ih2 _ _ _ _ _ _ _ ⟨rfl, rfl, rfl, rfl, rfl, by omega, rfl⟩ (by omega))) fun _ => zt_0 (hq 0 s (Or.inl rfl) (s1.mono (by omega) (Int.le_refl _) (by omega)))) fun hlt9 => ?_
      have k145 : w_inducts_145 R R79 R106 Q x fo call d' p y7 y9 s := by
        unfold w_inducts_145
        exact ov_i (by omega) (by omega) (ih3 _ _ _ _ _ _ _ _ _ ⟨rfl, rfl, rfl, rfl, rfl, rfl, by omega, rfl⟩ (by omega))
      exact br_i (fun _ => k145) fun _ => bd_i t2 (by omega) (rd_i fun _ => ov_i (by omega) (by omega) (ov_i (by omega) (by omega) (ov_i (by omega) (by omega) (bd_i (by omega) (by omega) (rd_i fun _ => br_i (fun _ => ov_i (by omega) (by omega) (ih3 _ _ _ _ _ _ _ _ _ ⟨rfl, rfl, rfl, rfl, rfl, rfl, by omega, rfl⟩ (by omega))) fun _ => k145)))))
    refine g_bounded yC.1.1.1.1 yC.2.1 (by omega) (fun _ _ => cmp y yC vyE y126 y123 y124 y125) fun s hs h61 => ?_
    rcases hs with rfl | rfl
    · exact cmp s yC vyE y126 y123 y124 y125
    · obtain ⟨l1, l2⟩ := yC.1.same hu (Fx_I (k := 61) rfl : Fx fLq y (iI y 61 4)) rfl rfl
      have yT := yC.1.1.1.1
      have sD : DR (iI y 61 4) := yC.2.1.keep yT l2 rfl rfl (fun z => absurd z h61)
      exact cmp _ ⟨l1, sD, yC.2.2⟩ (vyE.tr vT l2) y126 y123 y124 y125
