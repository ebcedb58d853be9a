/-! the row of an induction, its cost counted exactly -/
def IC (u : iST) (a : iST) (c k : Int) : Prop := Ly u a c 0 ∧ DR a ∧ a.1 122 ≤ u.1 122 + k ∧ a.1 126 = u.1 126 ∧ a.2.1 123 = u.2.1 123 ∧ a.2.1 124 = u.2.1 124 ∧ a.2.1 125 = u.2.1 125 ∧ a.1 60 = u.1 60 ∧ a.1 117 = u.1 117
theorem IC.mono {u a : iST} {c k c' k' : Int} (h : IC u a c k) (hc : c ≤ c') (hk : k ≤ k') : IC u a c' k' := ⟨h.1.mono hc (Int.le_refl _), h.2.1, by have := h.2.2.1; omega, h.2.2.2⟩
theorem IC.fz {u a w : iST} {c k : Int} (hu : TI u) (h : IC u a c k) (hF : Fx fZ2 a w) (hL : w.2.2 = a.2.2) : IC u w c k ∧ ExtT a w := by
  obtain ⟨h1, h2, h3, h5, h6, h7, h8, h9, h10⟩ := h
  obtain ⟨l1, l2⟩ := h1.fz hu (hF.mono fZ2_Z) hL
  have hT := h1.1.1.1
  exact ⟨⟨l1, h2.fz hT l2 (hF.mono fZ2_Z), by rw [fx_s hF 122 rfl]; exact h3, by rw [fx_s hF 126 rfl]; exact h5, by rw [fx_a hF 123 rfl]; exact h6, by rw [fx_a hF 124 rfl]; exact h7, by rw [fx_a hF 125 rfl]; exact h8, by rw [fx_s hF 60 rfl]; exact h9, by rw [fx_s hF 117 rfl]; exact h10⟩, l2⟩
theorem IC.gp {u a w : iST} {c k d : Int} (hu : TI u) (h : IC u a c k) (g : GP a w d) : IC u w (c + d) k := by
  obtain ⟨h1, h2, h3, h5, h6, h7, h8, h9, h10⟩ := h
  have hT := h1.1.1.1
  have hF := g.2.2.1
  exact ⟨h1.gp hu g, h2.gp hT g, by rw [fx_s hF 122 rfl]; exact h3, by rw [fx_s hF 126 rfl]; exact h5, by rw [fx_a hF 123 rfl]; exact h6, by rw [fx_a hF 124 rfl]; exact h7, by rw [fx_a hF 125 rfl]; exact h8, by rw [fx_s hF 60 rfl]; exact h9, by rw [fx_s hF 117 rfl]; exact h10⟩
theorem g_putIC {u a : iST} {c k x : Int} {Q : iST → Prop} (hu : TI u) (h : IC u a c k) (h122 : a.1 122 < 1200) (hx : IsT a x) (hs : Sm a x) (hq : ∀ y, IC u y c (k + 1) → ExtT a y → y.2.1 130 = a.2.1 130 → y.1 131 = a.1 131 → Q y) : w_put x Q a := by
  obtain ⟨h1, h2, h3, h5, h6, h7, h8, h9, h10⟩ := h
  have hT := h1.1.1.1
  refine g_put hT h2 h122 hx hs fun y y1 y2 y3 y4 => ?_
  have hE : ExtT a y := ExtT.same (fun k hk => y1 k (by simp [fD]; omega)) y2 (SameF.of y1 rfl rfl rfl rfl rfl)
  exact hq y ⟨h1.put hu y1 y2, y3, by omega, by rw [fx_s y1 126 rfl]; exact h5, by rw [fx_a y1 123 rfl]; exact h6, by rw [fx_a y1 124 rfl]; exact h7, by rw [fx_a y1 125 rfl]; exact h8, by rw [fx_s y1 60 rfl]; exact h9, by rw [fx_s y1 117 rfl]; exact h10⟩ hE (fx_a y1 130 rfl) (fx_s y1 131 rfl)
theorem g_putNotIC {u a : iST} {c k x : Int} {Q : iST → Prop} (hu : TI u) (h : IC u a c k) (hx : TJ a x) (hsub : SubOk a) (h122 : a.1 122 < 1200) (h8 : a.1 8 + 242 ≤ 452000) (hq : ∀ y, IC u y (c + 2 * sz a x + 1) (k + 1) → ExtT a y → y.2.1 130 = a.2.1 130 → y.1 131 = a.1 131 → Q y) : w_instance x (fun v28 u => w_notOf v28 (fun v29 u => w_put v29 (fun u => Q u) u) u) a := by
  have hG := h.1.1.1
  have aT := hG.1
  have xs := hx.1.szr aT
  have xs2 := hx.2
  refine g_inst hG hx.1 hx.2 hsub (by omega) fun t y hy ht hts _ _ => ?_
  have yI := h.gp hu hy
  have y8 := hy.2.2.2.2.2.1
  refine g_notOf (hy.gi hG) ht hts (by omega) fun t' z hz ht' hs' _ _ _ => ?_
  have zI := yI.gp hu hz
  have z122 : z.1 122 = a.1 122 := by rw [fx_s hz.2.2.1 122 rfl, fx_s hy.2.2.1 122 rfl]
  refine g_putIC hu zI (by omega) ht' hs' fun w w1 w2 w3 w4 => hq w (w1.mono (by omega) (Int.le_refl _)) ((hy.2.1.tr aT hz.2.1).tr aT w2) ?_ ?_
  · rw [w3, fx_a hz.2.2.1 130 rfl, fx_a hy.2.2.1 130 rfl]
  · rw [w4, fx_s hz.2.2.1 131 rfl, fx_s hy.2.2.1 131 rfl]
theorem sumT_le {u : iST} (hT : TI u) {r : Int → Int} {n m : Nat} (h : n ≤ m) (hr : ∀ j : Nat, j < m → IsT u (r j)) : 0 ≤ sumT u r n ∧ sumT u r n ≤ sumT u r m := by
  have h0 : ∀ j : Nat, j < m → 0 ≤ sz u (r j) := fun j hj => by have := (hr j hj).szr hT; omega
  have h1 : sumT u r 0 ≤ sumT u r n := sumT_mono (by omega) (fun j hj => h0 j (by omega))
  exact ⟨h1, sumT_mono h h0⟩
theorem sumF_le {u : iST} {r : Int → Int} {n m : Nat} (h : n ≤ m) (hr : ∀ j : Nat, j < m → 1 ≤ sz u (r j)) : (n : Int) ≤ sumF u r n ∧ sumF u r n ≤ sumF u r m := by
  have low : ∀ k : Nat, k ≤ m → (k : Int) ≤ sumF u r k := by
    intro k
    induction k with
    | zero => intro _; exact Int.le_refl _
    | succ k ih =>
      intro hk
      have h1 := ih (by omega)
      have h2 := hr k (by omega)
      show ((k + 1 : Nat) : Int) ≤ sumF u r k + sz u (r (k : Int))
      omega
  refine ⟨low n h, ?_⟩
  induction m with
  | zero => have : n = 0 := by omega
            subst this; exact Int.le_refl _
  | succ m ih =>
    by_cases e : n = m + 1
    · subst e; exact Int.le_refl _
    · have h1 := ih (by omega) (fun j hj => hr j (by omega)) (fun k hk => low k (by omega))
      have h2 := hr m (by omega)
      show sumF u r n ≤ sumF u r m + sz u (r (m : Int))
      omega
theorem g_inductionRowC {u : iST} {d l p fo : Int} {N : Nat} {Q : iST → Prop} (hL : Ly u u 0 0) (hd : DR u) (h122 : u.1 122 ≤ 600) (d0 : 0 ≤ d) (d1 : d < u.1 35) (h37 : u.2.1 37 d = N) (hl : IsL u l N) (hv : ∀ i, i < N → u.2.1 0 (el u l i) = -2) (hp : PathsOk u (u.2.1 36 d) N) (p0 : 0 ≤ p) (p1 : p < u.1 126) (hap : AllT u (Arg1 u (u.2.1 36 d)) (u.2.1 123 p)) (hfo : TJ u fo) (h8 : u.1 8 + sz u (u.2.1 123 p) * (2 * sz u fo + 3) + 600 ≤ 452000) (hq : ∀ w, IC u w (279 + sz u (u.2.1 123 p) * (2 * sz u fo + 3)) 160 → ExtT u w → Q w) : w_inductionRow d l p fo Q u := by
  have hW := hL.1
  have hT := hW.1.1
  have hm := hT.2.1
  have hD := hW.1.2.1
  have d40 : d < 40 := by have := hD.2.1; omega
  have hdd := hD.2.2.1 d d0 d1
  have hN6 : N ≤ 6 := by omega
  have p40 := hp.2.1
  have hpp := hp.2.2 p p0 p1
  have hr39 := hpp.2.2.1
  have hr0 := hpp.2.1
  have hsum := hpp.2.2.2.2
  have hend := hpp.1
  have esz := hend.1.1.szr hT
  have es120 := hend.1.2
  have lr := hl.r (by have := hT.1; omega)
  have fs := hfo.1.szr hT
  have fs2 := hfo.2
  have rT : ∀ j : Nat, j < (u.2.1 125 p).toNat → IsT u ((fun i => u.2.1 124 (64 * p + i)) (j : Int)) := fun j hj => (hpp.2.2.2.1 j (by omega) (by omega)).1
  have later : ∀ {a : iST} {c k : Int}, IC u a c k → TI a ∧ ExtT u a ∧ a.1 8 ≤ u.1 8 + c ∧ GI a ∧ a.2.1 37 d = N ∧ IsL a l N ∧ (∀ i, i < N → a.2.1 0 (el a l i) = -2) ∧ a.2.1 36 = u.2.1 36 ∧ TJ a fo ∧ sz a fo = sz u fo := by
    intro a c k h
    have aE := h.1.2.1.2.1
    have aF := h.1.2.1.2.2.1
    have h60 := h.2.2.2.2.2.2.2.1
    refine ⟨h.1.1.1.1, aE, by have := h.1.2.1.2.2.2.2.2.2.2.1; omega, h.1.1.1, by rw [fx_a aF 37 rfl]; exact h37, hl.ext hT aE.1, fun i hi => ?_, fx_a aF 36 rfl, hfo.ext hT aE, aE.szx hfo.1⟩
    rw [el_ext aE.1 hl i hi]
    have r := IsL.elr hT hl i hi
    rw [(aE.1.2.1 _ r.1 r.2).1]
    exact hv i hi
  have mulb : ∀ k : Int, 0 ≤ k → k ≤ sz u (u.2.1 123 p) → 0 ≤ k * (2 * sz u fo + 3) ∧ k * (2 * sz u fo + 3) ≤ sz u (u.2.1 123 p) * (2 * sz u fo + 3) ∧ sz u (u.2.1 123 p) * (2 * sz u fo + 3) ≤ 120 * 243 := by
    intro k k0 k1
    refine ⟨Int.mul_nonneg k0 (by omega), Int.mul_le_mul_of_nonneg_right k1 (by omega), ?_⟩
    exact Int.mul_le_mul es120 (by omega) (by omega) (by omega)
  have m0 := mulb (sz u (u.2.1 123 p)) (by omega) (Int.le_refl _)
  have k213 : ∀ a, IC u a (279 + sz u (u.2.1 123 p) * (2 * sz u fo + 3)) 159 → w_inductionRow_213 Q fo a := by
    intro a ha
    obtain ⟨aT, aE, a8, aG, a37, al, av, a36, af, afs⟩ := later ha
    have h3 := ha.2.2.1
    unfold w_inductionRow_213
    exact g_putIC hT ha (by omega) af.1 (fun _ => af.2) fun y hy hE _ _ => hq y (hy.mono (Int.le_refl _) (by omega)) (aE.tr hT hE)
  unfold w_inductionRow w_inductionRow_3
  refine lf5 (B := fun R x1 x2 x3 x4 x5 u => w_inductionRow_3b R Q x1 x2 x3 x4 x5 u) (fun c1 c2 c3 c4 c5 a => d = c1 ∧ l = c2 ∧ p = c3 ∧ fo = c4 ∧ ∃ k : Nat, c5 = k ∧ (k : Int) ≤ u.2.1 125 p ∧ IC u a (2 * sumT u (fun i => u.2.1 124 (64 * p + i)) k + k) k) (fun _ _ _ _ c5 _ => (u.2.1 125 p - c5).toNat) ?_ ⟨rfl, rfl, rfl, rfl, 0, rfl, hr0, ⟨hL.mono (by show (0 : Int) ≤ 2 * 0 + ((0 : Nat) : Int); omega) (Int.le_refl _), hd, by omega, rfl, rfl, rfl, rfl, rfl, rfl⟩⟩
  intro c1 c2 c3 c4 c5 a hI R ih
  obtain ⟨q1, q2, q3, q4, k, rfl, q6, q7⟩ := hI
  subst q1
  subst q2
  subst q3
  subst q4
  obtain ⟨aT, aE, a8, aG, a37, al, av, a36, af, afs⟩ := later q7
  have a122 := q7.2.2.1
  have sk := sumT_le hT (r := fun i => u.2.1 124 (64 * p + i)) (n := k) (m := (u.2.1 125 p).toNat) (by omega) rT
  obtain ⟨a1, a2, a3, e126, e123, e124, e125, e60, e117⟩ := q7
  have q7 : IC u a (2 * sumT u (fun i => u.2.1 124 (64 * p + i)) k + k) k := ⟨a1, a2, a3, e126, e123, e124, e125, e60, e117⟩
  unfold w_inductionRow_3b
  refine bd_i p0 (by omega) (rd_i fun _ => ?_)
  rw [e125]
  refine br_i (fun hge => bd_i p0 (by omega) (rd_i fun _ => bd_i d0 d40 (rd_i fun _ => ?_))) (fun hlt => ?_)
  · rw [e123, a36]
    refine g_findOk aT (by omega) (hend.ext hT aE) fun w w1 w2 w3 w4 w5 => ?_
    have hsE := aE.szw hend.1.1
    have hapa : AllT a (Arg1 a (u.2.1 36 d)) (u.2.1 123 p) := AllT.ext hT aE.1 (fun x x0 x1 hx => hx.ext hT aE.1 x0 x1) hend.1.1.r.1 hend.1.1.r.2 hap
    have w5 := w5 hapa
    rw [hsE] at w3 w5
    obtain ⟨wI, wE⟩ := q7.fz hT (w1.mono fFd_Z2) w2
    have wT := wI.1.1.1.1
    -- the sizes of what was found
    have szj : ∀ j : Nat, j < (w.1 131).toNat → sz a (w.2.1 130 j) = sz w (w.2.1 130 j) ∧ 1 ≤ sz a (w.2.1 130 j) := fun j hj => by
      have hj2 := (w4.2 j (by omega) (by omega))
      have e : sz w (w.2.1 130 j) = sz a (w.2.1 130 j) := by unfold sz; rw [fx_a w1 0 rfl, fx_a w1 3 rfl]
      have hs := hj2.2.2.2.2.2.2.1.1.szr wT
      omega
    have sF : ∀ y5 : Nat, (y5 : Int) ≤ w.1 131 → (y5 : Int) ≤ sumF a (w.2.1 130) y5 ∧ sumF a (w.2.1 130) y5 ≤ sz u (u.2.1 123 p) := fun y5 hy => by
      have := sumF_le (u := a) (r := w.2.1 130) (n := y5) (m := (w.1 131).toNat) (by omega) (fun j hj => (szj j hj).2)
      omega
    unfold w_inductionRow_69
    refine lf4 (B := fun R69 x1 x2 x4 x5 u => w_inductionRow_69b R69 Q x1 x2 x4 x5 u) (fun y1 y2 y4 y5 z => d = y1 ∧ l = y2 ∧ fo = y4 ∧ ∃ y : Nat, y5 = y ∧ (y : Int) ≤ w.1 131 ∧ IC u z (279 + 2 * sumF a (w.2.1 130) y + y * (2 * sz u fo)) (39 + y) ∧ FoundOk z N ∧ z.1 131 = w.1 131 ∧ z.2.1 130 = w.2.1 130 ∧ ExtT w z) (fun _ _ _ y5 _ => (w.1 131 - y5).toNat) ?_ ⟨rfl, rfl, rfl, 0, rfl, w4.1, wI.mono (by show _ ≤ 279 + 2 * 0 + ((0 : Nat) : Int) * (2 * sz u fo); omega) (by omega), w4, rfl, rfl, ExtT.rf w⟩
    intro y1 y2 y4 y5 z hI2 R69 ih2
    obtain ⟨r1, r2, r3, y, rfl, r5, r6, r7, r8, r9, r10⟩ := hI2
    subst r1
    subst r2
    subst r3
    obtain ⟨zT, zE, z8, zG, z37, zl, zv, z36, zf, zfs⟩ := later r6
    have z122 := r6.2.2.1
    have sy := sF y r5
    have m1 := mulb y (by omega) (by omega)
    have my : (y : Int) * (2 * sz u fo + 3) = y * (2 * sz u fo) + 3 * y := by rw [Int.mul_add]; omega
    have m2 := mulb (sz u (u.2.1 123 p)) (by omega) (Int.le_refl _)
    have my2 : sz u (u.2.1 123 p) * (2 * sz u fo + 3) = sz u (u.2.1 123 p) * (2 * sz u fo) + 3 * sz u (u.2.1 123 p) := by rw [Int.mul_add]; omega
    have my3 : (y : Int) * (2 * sz u fo) ≤ sz u (u.2.1 123 p) * (2 * sz u fo) := Int.mul_le_mul_of_nonneg_right (by omega) (by omega)
    have done := k213 z (r6.mono (by omega) (by omega))
    unfold w_inductionRow_69b
    refine rd_i fun _ => br_i (fun _ => done) fun hlt => rd_i fun _ => br_i (fun _ => done) fun _ => g_takeParameters zT d0 d40 z37 hN6 zl zv fun s s1 s2 s3 => ?_
    obtain ⟨sI, sE⟩ := r6.fz hT (s1.mono fY_Z2) s2
    have sFo : FoundOk s N := r7.ext zT sE (fx_s s1 131 rfl) (fx_a s1 130 rfl)
    have s131 : s.1 131 = w.1 131 := by rw [fx_s s1 131 rfl]; exact r8
    have s130 : s.2.1 130 = w.2.1 130 := by rw [fx_a s1 130 rfl]; exact r9
    have wsE : ExtT w s := r10.tr wT sE
    obtain ⟨x0, x1, x2, x3, x4, x5, x6, x7⟩ := sFo.2 y (by omega) (by omega)
    have sT := sI.1.1.1.1
    have hyl : y < (w.1 131).toNat := by omega
    have sxa : sz s (s.2.1 130 (y : Int)) = sz a (w.2.1 130 (y : Int)) := by
      rw [s130, (szj y hyl).1]
      exact wsE.szw (w4.2 y (by omega) (by omega)).2.2.2.2.2.2.1.1
    have sy1 := sF (y + 1) (by omega)
    have esy : sumF a (w.2.1 130) (y + 1) = sumF a (w.2.1 130) y + sz a (w.2.1 130 (y : Int)) := rfl
    have xall : AllE s (IsT s) (s.2.1 1 (s.2.1 130 (y : Int))) N := AllE_of fun i hi => (x4 i hi).1
    have my1 : ((y + 1 : Nat) : Int) * (2 * sz u fo) = y * (2 * sz u fo) + 2 * sz u fo := by rw [show ((y + 1 : Nat) : Int) = (y : Int) + 1 from by omega, Int.add_mul]; omega
    have my4 : ((y + 1 : Nat) : Int) * (2 * sz u fo) ≤ sz u (u.2.1 123 p) * (2 * sz u fo) := Int.mul_le_mul_of_nonneg_right (by omega) (by omega)
    unfold w_inductionRow_94
    refine lf5 (B := fun R94 x1 x2 x4 x5 x6 u => w_inductionRow_94b R69 R94 Q x1 x2 x4 x5 x6 u) (fun i1 i2 i4 i5 i6 g => d = i1 ∧ l = i2 ∧ fo = i4 ∧ (y : Int) = i5 ∧ ∃ k : Nat, i6 = k ∧ k ≤ N ∧ IC u g (279 + 2 * sumF a (w.2.1 130) y + y * (2 * sz u fo) + 2 * preS s (s.2.1 1 (s.2.1 130 (y : Int))) k) (39 + y) ∧ ExtT s g ∧ g.2.1 130 = s.2.1 130 ∧ g.1 131 = w.1 131 ∧ SubOk g ∧ ∀ i, 0 ≤ i → i < i6 → IsT g (g.2.1 140 i)) (fun _ _ _ _ i6 _ => (N - i6).toNat) ?_ ⟨rfl, rfl, rfl, rfl, 0, rfl, by omega, sI.mono (by show _ ≤ _ + 2 * 0; omega) (Int.le_refl _), ExtT.rf s, rfl, s131, s3, fun i i0 i1 => by omega⟩
    intro i1 i2 i4 i5 i6 g hI3 R94 ih3
    obtain ⟨t1, t2, t3, t4, kk, rfl, t5, t6, t7, t8, t9, t10, t11⟩ := hI3
    subst t1
    subst t2
    subst t3
    subst t4
    obtain ⟨gT, gE, g8, gG, g37, gl, gv, g36, gf, gfs⟩ := later t6
    have g122 := t6.2.2.1
    have hpre := preS_le sT xall kk t5
    have hpre0 : 0 ≤ preS s (s.2.1 1 (s.2.1 130 (y : Int))) kk := by
      have : ∀ m, m ≤ N → 0 ≤ preS s (s.2.1 1 (s.2.1 130 (y : Int))) m := by
        intro m
        induction m with
        | zero => intro _; exact Int.le_refl _
        | succ m ihm =>
          intro hm'
          have h1 := ihm (by omega)
          have h2 := ((x4 m (by omega)).1).szr sT
          show 0 ≤ preS s (s.2.1 1 (s.2.1 130 (y : Int))) m + sz s (el s (s.2.1 1 (s.2.1 130 (y : Int))) m)
          omega
      exact this kk t5
    unfold w_inductionRow_94b
    refine bd_i d0 d40 (rd_i fun _ => ?_)
    rw [g37]
    refine br_i (fun hge3 => bd_i d0 d40 (rd_i fun _ => sw_i ?_)) fun hlt3 => bd_i (by omega) (by omega) (rd_i fun _ => ov_i (by omega) (by omega) ?_)
    · have ek : kk = N := by omega
      subst ek
      obtain ⟨jI, jE⟩ := t6.fz hT (Fx_I (k := 74) rfl : Fx fZ2 g (iI g 74 (g.2.1 37 d))) rfl
      have j74 : (iI g 74 (g.2.1 37 d)).1 74 = kk := g37
      have j140 : ∀ i, 0 ≤ i → i < (kk : Int) → IsT (iI g 74 (g.2.1 37 d)) ((iI g 74 (g.2.1 37 d)).2.1 140 i) := fun i i0 i1 => (t11 i i0 i1).ext gT jE
      have j130 : (iI g 74 (g.2.1 37 d)).2.1 130 = s.2.1 130 := t8
      have j131 : (iI g 74 (g.2.1 37 d)).1 131 = w.1 131 := t9
      have jsE : ExtT s (iI g 74 (g.2.1 37 d)) := t7.tr sT jE
      rw [g37] at *
      generalize iI g 74 (kk : Int) = j at *
      unfold w_inductionRow_150
      refine lf5 (B := fun R150 x1 x2 x4 x5 x6 u => w_inductionRow_150b R69 R150 Q x1 x2 x4 x5 x6 u) (fun i1 i2 i4 i5 i6 m => d = i1 ∧ l = i2 ∧ fo = i4 ∧ (y : Int) = i5 ∧ 0 ≤ i6 ∧ i6 ≤ kk ∧ IC u m (279 + 2 * sumF a (w.2.1 130) y + y * (2 * sz u fo) + 2 * preS s (s.2.1 1 (s.2.1 130 (y : Int))) kk) (39 + y) ∧ ExtT s m ∧ m.2.1 130 = s.2.1 130 ∧ m.1 131 = w.1 131 ∧ m.1 74 = kk ∧ (∀ i, 0 ≤ i → i < (kk : Int) → IsT m (m.2.1 140 i)) ∧ ∀ i, 0 ≤ i → i < i6 → IsT m (m.2.1 73 i)) (fun _ _ _ _ i6 _ => (kk - i6).toNat) ?_ ⟨rfl, rfl, rfl, rfl, Int.le_refl _, by omega, jI, jsE, j130, j131, j74, j140, fun i i0 i1 => by omega⟩
      intro i1 i2 i4 i5 i6 m hI4 R150 ih4
      obtain ⟨n1, n2, n3, n4, n5, n6, n7, n8, n9, n10, n11, n12, n13⟩ := hI4
      subst n1
      subst n2
      subst n3
      subst n4
      obtain ⟨mT, mE, m8, mG, m37, ml, mv, m36, mf, mfs⟩ := later n7
      have m122 := n7.2.2.1
      unfold w_inductionRow_150b
      refine rd_i fun _ => ?_
      rw [n11]
      refine br_i (fun hge4 => ?_) fun hlt4 => ?_
      · refine g_putNotIC hT n7 mf ⟨by omega, by omega, fun i i0 i1 => n13 i i0 (by omega)⟩ (by omega) (by omega) fun y' yI yE y130' y131' => ov_i (by omega) (by omega) ?_
        have syE := n8.tr sT yE
        have y130 : y'.2.1 130 = s.2.1 130 := by rw [y130']; exact n9
        have y131 : y'.1 131 = w.1 131 := by rw [y131']; exact n10
        rw [mfs] at yI
        exact ih2 _ _ _ _ _ ⟨rfl, rfl, rfl, y + 1, by omega, by omega, yI.mono (by omega) (by omega), sFo.ext sT syE (by rw [y131, s131]) y130, y131, by rw [y130, s130], wsE.tr wT syE⟩ (by omega)
      · refine s_nth mT lr.1 (by have := mE.1.1.1; omega) n5 (by omega) (bd_i n5 (by omega) (sw_i (bd_i n5 (by omega) (rd_i fun _ => bd_i n5 (by omega) (sw_i (ov_i (by omega) (by omega) ?_))))))
        generalize el m l i6.toNat = xx
        show R150 d l fo y (i6 + 1) (iA (iA m 72 i6 xx) 73 i6 (m.2.1 140 i6))
        generalize hy' : iA (iA m 72 i6 xx) 73 i6 (m.2.1 140 i6) = y'
        have yF : Fx fZ2 m y' := by rw [← hy']; exact (Fx_A (k := 72) rfl).tr (Fx_A (k := 73) rfl)
        have yL : y'.2.2 = m.2.2 := by rw [← hy']; rfl
        have y73 : ∀ j, y'.2.1 73 j = if j = i6 then m.2.1 140 i6 else m.2.1 73 j := fun j => by rw [← hy']; rfl
        have yr : ∀ g, g ≠ 72 → g ≠ 73 → y'.2.1 g = m.2.1 g := fun g g1 g2 => by rw [← hy']; exact (iA_other g2).trans (iA_other g1)
        have ys : y'.1 = m.1 := by rw [← hy']; rfl
        clear hy'
        obtain ⟨yI, yE⟩ := n7.fz hT yF yL
        refine ih4 _ _ _ _ _ _ ⟨rfl, rfl, rfl, rfl, by omega, by omega, yI, n8.tr sT yE, by rw [yr 130 (by decide) (by decide)]; exact n9, by rw [ys]; exact n10, by rw [ys]; exact n11, fun i i0 i1 => by rw [yr 140 (by decide) (by decide)]; exact (n12 i i0 i1).ext mT yE, fun i i0 i1 => ?_⟩ (by omega)
        rw [y73]
        split
        · exact (n12 i6 n5 (by omega)).ext mT yE
        · exact (n13 i i0 (by omega)).ext mT yE
    · have hk : kk < N := by omega
      rw [t8]
      have g8s := t7.1.1.1
      refine s_term gT x0 (by omega) (by omega) (by omega) ?_
      have exg := t7.1.2.1 _ x0 x1
      have eel : el g (s.2.1 130 (y : Int)) ((kk : Int) + 1).toNat = el s (s.2.1 1 (s.2.1 130 (y : Int))) kk := by
        rw [show ((kk : Int) + 1).toNat = kk + 1 from by omega, el_succ, exg.2.1]
        exact el_ext t7.1 x3 kk hk
      rw [eel]
      have htj := (x4 kk hk).ext sT t7
      have hszs := t7.szx (x4 kk hk).1
      have hss := (x4 kk hk).1.szr sT
      have hpre1 := preS_le sT xall (kk + 1) (by omega)
      have epre : preS s (s.2.1 1 (s.2.1 130 (y : Int))) (kk + 1) = preS s (s.2.1 1 (s.2.1 130 (y : Int))) kk + sz s (el s (s.2.1 1 (s.2.1 130 (y : Int))) kk) := rfl
      refine g_inst gG htj.1 htj.2 t10 (by omega) fun t y' hy ht _ _ _ => bd_i (by omega) (by omega) (sw_i (ov_i (by omega) (by omega) ?_))
      have yI := t6.gp hT hy
      have yT := hy.1
      obtain ⟨zI, zzE⟩ := yI.fz hT (Fx_A (k := 140) rfl : Fx fZ2 y' (iA y' 140 kk t)) rfl
      have ysub : SubOk y' := hy.sub gT t10
      refine ih3 _ _ _ _ _ _ ⟨rfl, rfl, rfl, rfl, kk + 1, by omega, by omega, zI.mono (by omega) (Int.le_refl _), (t7.tr sT hy.2.1).tr sT zzE, ?_, ?_, ?_, fun i i0 i1 => ?_⟩ (by omega)
      · rw [iA_other (by decide), fx_a hy.2.2.1 130 rfl]; exact t8
      · show y'.1 131 = _
        rw [fx_s hy.2.2.1 131 rfl]; exact t9
      · exact ⟨ysub.1, ysub.2.1, fun i i0 i1 => by rw [iA_other (by decide)]; exact (ysub.2.2 i i0 i1).ext yT zzE⟩
      · rw [iA_same]
        split
        · exact ht.ext yT zzE
        · have hi := t11 i i0 (by omega)
          rw [fx_a hy.2.2.1 140 rfl]
          exact (hi.ext gT hy.2.1).ext yT zzE
  · refine g_takeParameters aT d0 d40 a37 hN6 al av fun s s1 s2 s3 => ov_i (by omega) (by omega) (ov_i (by omega) (by omega) (bd_i (by omega) (by omega) (rd_i fun _ => ?_)))
    obtain ⟨sI, sE⟩ := q7.fz hT (s1.mono fY_Z2) s2
    obtain ⟨sT, suE, s8, sG, s37, sl, sv, s36, sf, sfs⟩ := later sI
    have hru := hpp.2.2.2.1 k (by omega) (by omega)
    have htj : TJ s (s.2.1 124 (64 * p + k)) := by
      rw [sI.2.2.2.2.2.1]
      exact hru.ext hT suE
    have hss : sz s (s.2.1 124 (64 * p + k)) = sz u (u.2.1 124 (64 * p + k)) := by
      rw [sI.2.2.2.2.2.1]
      exact suE.szx hru.1
    have s122 := sI.2.2.1
    have ek1 : sumT u (fun i => u.2.1 124 (64 * p + i)) (k + 1) = sumT u (fun i => u.2.1 124 (64 * p + i)) k + sz u (u.2.1 124 (64 * p + k)) := rfl
    refine g_putNotIC hT sI htj s3 (by omega) (by omega) fun y' yI yE _ _ => ov_i (by omega) (by omega) ?_
    rw [hss] at yI
    exact ih _ _ _ _ _ _ ⟨rfl, rfl, rfl, rfl, k + 1, by omega, by omega, yI.mono (by omega) (by omega)⟩ (by omega)
