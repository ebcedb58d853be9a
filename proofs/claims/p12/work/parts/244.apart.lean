/-! areApart -/
theorem sz_t {u v : iST} (hs : ∀ k, k ≤ 11 → v.1 k = u.1 k ∧ v.2.1 k = u.2.1 k) (x : Int) : sz v x = sz u x := by
  unfold sz
  rw [(hs 0 (by decide)).2, (hs 3 (by decide)).2]
theorem AllT.eq {u v : iST} (hs : ∀ k, k ≤ 11 → v.1 k = u.1 k ∧ v.2.1 k = u.2.1 k) {S : Int → Prop} {o : Int} (h : AllT u S o) : AllT v S o := by
  obtain ⟨G, h1, h2⟩ := h
  refine ⟨G, fun x hx => ?_, h2⟩
  obtain ⟨a, b⟩ := h1 x hx
  refine ⟨a, fun z => ?_⟩
  rw [(hs 0 (by decide)).2] at z
  obtain ⟨n, c, d⟩ := b z
  rw [(hs 1 (by decide)).2]
  exact ⟨n, c.eq hs, d.eq hs⟩
theorem AllT.ext {u v : iST} (hT : TI u) (hE : Ext u v) {S S' : Int → Prop} (hS : ∀ x, 0 ≤ x → x < u.1 8 → S x → S' x) {o : Int} (o0 : 0 ≤ o) (o1 : o < u.1 8) (h : AllT u S o) : AllT v S' o := by
  refine ⟨fun x => 0 ≤ x ∧ x < u.1 8 ∧ AllT u S x, fun x hx => ?_, ⟨o0, o1, h⟩⟩
  obtain ⟨x0, x1, hx⟩ := hx
  obtain ⟨a, b⟩ := hx.step
  have ex := hE.2.1 x x0 x1
  refine ⟨hS x x0 x1 a, fun z => ?_⟩
  rw [ex.1] at z
  obtain ⟨n, c, d⟩ := b z
  rw [ex.2.1]
  refine ⟨n, c.ext hT hE, ?_⟩
  refine AllE.ext hE c (AllE_of fun i hi => ?_)
  have r := IsL.elr hT c i hi
  exact ⟨r.1, r.2, d.el i hi⟩
theorem NoF.eq {u v : iST} (hs : ∀ k, k ≤ 11 → v.1 k = u.1 k ∧ v.2.1 k = u.2.1 k) {f o : Int} (h : NoF u f o) : NoF v f o := by
  unfold NoF at *
  rw [(hs 0 (by decide)).2]
  exact AllT.eq hs h
def Apart (u : iST) (f p : Int) : Prop := (∀ i, 0 ≤ i → i < u.2.1 125 p → NoF u f (u.2.1 124 (64 * p + i))) ∧ AllT u (Arg1 u f) (u.2.1 123 p)
def PW (u : iST) (p : Int) : Prop := IsW u (u.2.1 123 p) ∧ sz u (u.2.1 123 p) ≤ 120 ∧ 0 ≤ u.2.1 125 p ∧ u.2.1 125 p ≤ 39 ∧ ∀ i, 0 ≤ i → i < u.2.1 125 p → IsW u (u.2.1 124 (64 * p + i)) ∧ sz u (u.2.1 124 (64 * p + i)) ≤ 120
def WJ (u : iST) (x : Int) : Prop := IsW u x ∧ sz u x ≤ 120
theorem sz_argw {u : iST} (hT : TI u) {n : Nat} {l : Int} (h : AllE u (IsW u) l n) : ∀ i, i < n → sz u (el u l i) ≤ sumS u l n := by
  induction n generalizing l with
  | zero => intro i hi; omega
  | succ n ih =>
    intro i hi
    have h2 := sumS_rw hT h.2
    have h1 := h.1.szr hT
    show sz u (el u l i) ≤ sz u (u.2.1 0 l) + sumS u (u.2.1 1 l) n
    cases i with
    | zero => show sz u (u.2.1 0 l) ≤ _; omega
    | succ i =>
      have := ih h.2 i (by omega)
      show sz u (el u (u.2.1 1 l) i) ≤ _
      omega
theorem WJ.args {u : iST} (hT : TI u) {x : Int} (hx : WJ u x) (hc : 0 ≤ u.2.1 0 x ∧ u.2.1 0 x ≠ 2) : ∃ n : Nat, n ≤ 6 ∧ IsL u (u.2.1 1 x) n ∧ ∀ i, i < n → WJ u (el u (u.2.1 1 x) i) := by
  obtain ⟨m, a, b, c, d⟩ := hx.1.call hc
  refine ⟨m, a, b, fun i hi => ⟨c.el i hi, ?_⟩⟩
  have := sz_argw hT c i hi
  have h2 := hx.2
  rw [d] at h2
  unfold capS at h2
  split at h2 <;> omega
theorem WJ.hered {u : iST} (hT : TI u) : Hered u (WJ u) := fun x hx hc n hl i hi => by
  obtain ⟨m, a, b, c⟩ := hx.args hT hc
  have := IsL_uniq hT b hl
  subst this
  exact c i hi
theorem fK_Fd : ∀ k, fFd k = false → fK k = false := fun k hk => by simp [fFd] at hk; simp [fK]; omega
theorem g_areApart {f : Int} {Q : Int → iST → Prop} {u : iST} (hT : TI u) (f0 : 16 < f) (h126 : u.1 126 ≤ 40) (hp : ∀ p, 0 ≤ p → p < u.1 126 → PW u p) (hq : ∀ b v, bz b → Fx fFd u v → v.2.2 = u.2.2 → (b ≠ 0 → ∀ p, 0 ≤ p → p < u.1 126 → Apart u f p) → Q b v) : w_areApart f Q u := by
  have h8 := hT.2.1
  unfold w_areApart w_areApart_2
  refine lf2 (B := fun R x1 x2 u => w_areApart_2b R Q x1 x2 u) (fun x1 x2 v => f = x1 ∧ 0 ≤ x2 ∧ Fx fFd u v ∧ v.2.2 = u.2.2 ∧ ∀ p, 0 ≤ p → p < x2 → p < u.1 126 → Apart u f p) (fun _ x2 _ => (u.1 126 - x2).toNat) ?_ ⟨rfl, Int.le_refl _, Fx.rf _ u, rfl, fun p p0 p1 => by omega⟩
  intro x1 p v hI R ih
  obtain ⟨e1, p0, p1, p2, p3⟩ := hI
  subst e1
  have e126 : v.1 126 = u.1 126 := fx_s p1 126 rfl
  unfold w_areApart_2b
  refine rd_i fun _ => br_i (fun _ => zt_1 (hq 1 v (Or.inr rfl) p1 p2 (fun _ p p0 pl => p3 p p0 (by omega) pl))) fun hlt => ?_
  obtain ⟨w1, w2, w3, w4, w5⟩ := hp p p0 (by omega)
  have stop : ∀ z, Fx fFd u z → z.2.2 = u.2.2 → zt 0 (Q 0 z) := fun z z1 z2 => zt_0 (hq 0 z (Or.inl rfl) z1 z2 (fun q => absurd rfl q))
  unfold w_areApart_12
  refine lf3 (B := fun R12 x1 x2 x3 u => w_areApart_12b R R12 Q x1 x2 x3 u) (fun y1 y2 y3 z => f = y1 ∧ p = y2 ∧ 0 ≤ y3 ∧ y3 ≤ u.2.1 125 p ∧ Fx fFd u z ∧ z.2.2 = u.2.2 ∧ ∀ i, 0 ≤ i → i < y3 → NoF u f (u.2.1 124 (64 * p + i))) (fun _ _ y3 _ => (u.2.1 125 p - y3).toNat) ?_ ⟨rfl, rfl, Int.le_refl _, w3, p1, p2, fun i i0 i1 => by omega⟩
  intro y1 y2 y3 z hI2 R12 ih2
  obtain ⟨q0, q00, q1, q2, q3, q4, q5⟩ := hI2
  subst q0
  subst q00
  have t11 : ∀ k, k ≤ 11 → z.1 k = u.1 k ∧ z.2.1 k = u.2.1 k := fun k hk => q3 k (fFd_t k hk)
  have t11' : ∀ k, k ≤ 11 → u.1 k = z.1 k ∧ u.2.1 k = z.2.1 k := fun k hk => ⟨(t11 k hk).1.symm, (t11 k hk).2.symm⟩
  have zT : TI z := TI_eq hT t11 q4
  have e0z : z.2.1 0 = u.2.1 0 := (t11 0 (by decide)).2
  have e123 : z.2.1 123 = u.2.1 123 := fx_a q3 123 rfl
  have e124 : z.2.1 124 = u.2.1 124 := fx_a q3 124 rfl
  have e125 : z.2.1 125 = u.2.1 125 := fx_a q3 125 rfl
  unfold w_areApart_12b
  refine bd_i p0 (by omega) (rd_i fun _ => ?_)
  rw [e125]
  refine br_i (fun hle => bd_i p0 (by omega) (rd_i fun _ => ?_)) (fun hlt2 => ov_i (by omega) (by omega) (ov_i (by omega) (by omega) (bd_i (by omega) (by omega) (rd_i fun _ => ?_))))
  · rw [e123]
    refine g_find (P := WJ z) zT (WJ.hered zT) (w1.eq t11) ⟨w1.eq t11, by rw [sz_t t11]; exact w2⟩ (by rw [sz_t t11]; omega) fun a fa la fn ff fall _ => ?_
    rw [sz_t t11] at fn
    unfold w_areApart_62
    refine lf3 (B := fun R62 x1 x2 x3 u => w_areApart_62b R R62 Q x1 x2 x3 u) (fun c1 c2 c3 b => f = c1 ∧ p = c2 ∧ 0 ≤ c3 ∧ Fx fK a b ∧ b.2.2 = a.2.2 ∧ ∀ j, 0 ≤ j → j < c3 → j < a.1 131 → Arg1 u f (a.2.1 130 j)) (fun _ _ c3 _ => (a.1 131 - c3).toNat) ?_ ⟨rfl, rfl, Int.le_refl _, Fx.rf _ a, rfl, fun j j0 j1 => by omega⟩
    intro c1 c2 c3 b hI3 R62 ih3
    obtain ⟨s1, s2, s3, s4, s5, s6⟩ := hI3
    subst s1
    subst s2
    have e130 : b.2.1 130 = a.2.1 130 := fx_a s4 130 rfl
    have e131 : b.1 131 = a.1 131 := fx_s s4 131 rfl
    have bF : Fx fFd u b := (q3.tr fa).tr (s4.mono fK_Fd)
    have bL : b.2.2 = u.2.2 := s5.trans (la.trans q4)
    have bt : ∀ k, k ≤ 11 → b.1 k = u.1 k ∧ b.2.1 k = u.2.1 k := fun k hk => bF k (fFd_t k hk)
    have bT : TI b := TI_eq hT bt bL
    unfold w_areApart_62b
    refine rd_i fun _ => br_i (fun hge => ov_i (by omega) (by omega) (ih _ _ _ ⟨rfl, by omega, bF, bL, fun p' p0' p1' pl' => ?_⟩ (by omega))) fun hlt3 => bd_i s3 (by omega) (rd_i fun _ => ?_)
    · by_cases e : p' < p
      · exact p3 p' p0' e pl'
      · have : p' = p := by omega
        subst this
        refine ⟨fun i i0 i1 => q5 i i0 (by omega), ?_⟩
        refine (AllT.eq t11' fall).mono (fun x hx hc => ?_)
        rw [e0z] at hx
        obtain ⟨j, j0, j1, j2⟩ := hx hc
        rw [← j2] at hc ⊢
        exact s6 j j0 (by omega) j1 hc
    · rw [e130]
      obtain ⟨xj, xw, xc0, xc⟩ := ff.2 c3 s3 (by omega)
      generalize hx : a.2.1 130 c3 = x at *
      have xu : IsW u x := xw.eq t11'
      have xr := xu.r
      rw [e0z] at xc0 xc
      have pr := hT.pair xr.1 xr.2 xc0
      have xj2 : WJ u x := ⟨xu, by rw [← sz_t t11]; exact xj.2⟩
      obtain ⟨n, n6, hl, hal⟩ := xj2.args hT ⟨xc0, by omega⟩
      refine bd_i xr.1 (by omega) (rd_i fun _ => ?_)
      rw [(bt 1 (by decide)).2]
      have hlb : IsL b (u.2.1 1 x) n := hl.eq bt
      refine s_lengthOf bT pr.2.1 (by rw [(bt 8 (by decide)).1]; omega) (fun hno => absurd hlb (hno n)) fun ln _ hln => ?_
      have := IsL_uniq bT hln hlb
      subst this
      unfold w_areApart_90
      refine lf5 (B := fun R90 x1 x2 x3 x4 x5 u => w_areApart_90b R R62 R90 Q x1 x2 x3 x4 x5 u) (fun d1 d2 d3 d4 d5 e => f = d1 ∧ p = d2 ∧ c3 = d3 ∧ (ln : Int) = d4 ∧ 1 ≤ d5 ∧ d5 ≤ ln + 1 ∧ Fx fK a e ∧ e.2.2 = a.2.2 ∧ ∀ i : Nat, (i : Int) + 1 < d5 → NoF u f (el u (u.2.1 1 x) i)) (fun _ _ _ _ d5 _ => (ln + 1 - d5).toNat) ?_ ⟨rfl, rfl, rfl, rfl, Int.le_refl _, by omega, s4, s5, fun i hi => by omega⟩
      intro d1 d2 d3 d4 d5 e hI4 R90 ih4
      obtain ⟨r1, r2, r3, r4, r5, r6, r7, r8, r9⟩ := hI4
      subst r1
      subst r2
      subst r3
      subst r4
      have eF : Fx fFd u e := (q3.tr fa).tr (r7.mono fK_Fd)
      have eL : e.2.2 = u.2.2 := r8.trans (la.trans q4)
      have et : ∀ k, k ≤ 11 → e.1 k = u.1 k ∧ e.2.1 k = u.2.1 k := fun k hk => eF k (fFd_t k hk)
      have et' : ∀ k, k ≤ 11 → u.1 k = e.1 k ∧ u.2.1 k = e.2.1 k := fun k hk => ⟨(et k hk).1.symm, (et k hk).2.symm⟩
      have eT : TI e := TI_eq hT et eL
      unfold w_areApart_90b
      refine br_i (fun hgt => ov_i (by omega) (by omega) (ih3 _ _ _ _ ⟨rfl, rfl, by omega, r7, r8, fun j j0 j1 j2 => ?_⟩ (by omega))) fun hle => bd_i s3 (by omega) (rd_i fun _ => ?_)
      · by_cases ej : j < c3
        · exact s6 j j0 ej j2
        · have : j = c3 := by omega
          subst this
          rw [hx]
          intro _ m i hlm him
          have := IsL_uniq hT hlm hl
          subst this
          exact r9 i (by omega)
      · rw [fx_a r7 130 rfl, hx]
        refine s_term eT xr.1 (by rw [(et 8 (by decide)).1]; exact xr.2) (by omega) (by omega) ?_
        obtain ⟨i, hi⟩ : ∃ i : Nat, d5 = i + 1 := ⟨(d5 - 1).toNat, by omega⟩
        have eel : el e x d5.toNat = el u (u.2.1 1 x) i := by
          rw [show d5.toNat = i + 1 from by omega, el_succ, (et 1 (by decide)).2]
          exact el_ext (Ext_eq et eL) hl i (by omega)
        rw [eel]
        obtain ⟨tw, tsz⟩ := hal i (by omega)
        refine g_hasCall eT (tw.eq et) (by rw [sz_t et]; omega) fun r g rb fg lg hr => br_i (fun hz => ov_i (by omega) (by omega) (ih4 _ _ _ _ _ _ ⟨rfl, rfl, rfl, rfl, by omega, by omega, r7.tr fg, lg.trans r8, fun i' hi' => ?_⟩ (by omega))) fun _ => stop g (eF.tr (fg.mono fK_Fd)) (lg.trans eL)
        by_cases ei : i' < i
        · exact r9 i' (by omega)
        · have : i' = i := by omega
          subst this
          exact NoF.eq et' (hr hz)
  · rw [e124]
    obtain ⟨rw1, rw2⟩ := w5 y3 q1 (by omega)
    refine g_hasCall zT (rw1.eq t11) (by rw [sz_t t11]; omega) fun r g rb fg lg hr => br_i (fun hz => ov_i (by omega) (by omega) (ih2 _ _ _ _ ⟨rfl, rfl, by omega, by omega, q3.tr (fg.mono fK_Fd), lg.trans q4, fun i i0 i1 => ?_⟩ (by omega))) fun _ => stop g (q3.tr (fg.mono fK_Fd)) (lg.trans q4)
    by_cases e : i < y3
    · exact q5 i i0 e
    · have : i = y3 := by omega
      subst this
      exact NoF.eq t11' (hr hz)
