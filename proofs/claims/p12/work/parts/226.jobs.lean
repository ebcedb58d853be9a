/-! jobs -/
def Call (u : iST) (o : Int) : Prop := 0 ≤ u.2.1 0 o ∧ u.2.1 0 o ≠ 2
def PR (w : iST) (k : Int) : Prop := 0 ≤ w.2.1 107 k ∧ w.2.1 107 k ≤ 120 ∧ ∀ i, 0 ≤ i → i < w.2.1 107 k → TJ w (w.2.1 106 (130 * k + i))
/-- the rule that is tried -/
def JR (w : iST) (k : Int) : Prop := 0 ≤ w.2.1 100 k ∧ w.2.1 100 k < w.1 42 ∧ RuleOk w (w.2.1 100 k) ∧ 0 ≤ w.2.1 101 k ∧ PR w k
/-- job k waits: it holds the results from R' to R, the context from C' to C -/
def Jb (w : iST) (k R' R C' C : Int) : Prop := TJ w (w.2.1 92 k) ∧
  ((w.2.1 94 k = 1 ∧ w.2.1 0 (w.2.1 92 k) = 3 ∧ R = R' ∧ C = C') ∨
   (w.2.1 94 k = 3 ∧ TJ w (w.2.1 95 k) ∧ TJ w (w.2.1 97 k) ∧ R = R' ∧ C = C' + 1) ∨
   (w.2.1 94 k = 4 ∧ TJ w (w.2.1 95 k) ∧ TJ w (w.2.1 96 k) ∧ R = R' ∧ C = C' + 1) ∨
   (w.2.1 94 k = 5 ∧ R = R' ∧ C = C') ∨
   (w.2.1 94 k = 10 ∧ Call w (w.2.1 92 k) ∧ w.2.1 0 (w.2.1 92 k) ≠ 3 ∧ (∃ n m : Nat, n ≤ 6 ∧ Ar w (w.2.1 0 (w.2.1 92 k)) n ∧ IsL w (w.2.1 98 k) m ∧ AllE w (TJ w) (w.2.1 98 k) m ∧ w.2.1 99 k = R' ∧ R' ≤ R ∧ R + 1 + m = R' + n) ∧ (∀ i, R' ≤ i → i < R → TJ w (w.2.1 103 i)) ∧ C = C') ∨
   (w.2.1 94 k = 31 ∧ Call w (w.2.1 92 k) ∧ JR w k ∧ w.2.1 101 k < w.2.1 48 (w.2.1 100 k) ∧ R = R' ∧ C = C') ∨
   (w.2.1 94 k = 40 ∧ Call w (w.2.1 92 k) ∧ (∃ d, 0 ≤ d ∧ d < w.1 35 ∧ FnOf w (w.2.1 0 (w.2.1 92 k)) (100 + d) ∧ w.2.1 0 (w.2.1 39 d) = 3) ∧ R = R' ∧ C = C') ∨
   (w.2.1 94 k = 90 ∧ R = R' ∧ C = C'))
theorem Jb.r {w : iST} {k R' R C' C : Int} (h : Jb w k R' R C' C) : R' ≤ R ∧ R ≤ R' + 6 ∧ C' ≤ C ∧ C ≤ C' + 1 := by
  obtain ⟨_, h⟩ := h
  rcases h with ⟨a, b, c, d⟩ | ⟨a, b, c, d, e⟩ | ⟨a, b, c, d, e⟩ | ⟨a, b, c⟩ | ⟨a, b, c, ⟨n, m, d, e, f, g, i, j, l⟩, p, q⟩ | ⟨a, b, c, d, e, f⟩ | ⟨a, b, c, d, e⟩ | ⟨a, b, c⟩ <;> omega
def JS (w : iST) (c0 : Int) : Nat → Int → Int → Prop
  | 0, R, C => R = 0 ∧ C = c0
  | k + 1, R, C => ∃ R' C', JS w c0 k R' C' ∧ Jb w k R' R C' C
theorem JS.r {w : iST} {c0 : Int} : ∀ {k : Nat} {R C : Int}, JS w c0 k R C → 0 ≤ R ∧ R ≤ 6 * k ∧ c0 ≤ C ∧ C ≤ c0 + k
  | 0, R, C, ⟨h1, h2⟩ => by omega
  | k + 1, R, C, ⟨R', C', h1, h2⟩ => by
    have := JS.r h1
    have := h2.r
    omega
def RowEq (u v : iST) (i : Int) : Prop := (∀ g, 92 ≤ g → g ≤ 101 → v.2.1 g i = u.2.1 g i) ∧ v.2.1 107 i = u.2.1 107 i ∧ ∀ j, 0 ≤ j → j < 130 → v.2.1 106 (130 * i + j) = u.2.1 106 (130 * i + j)
theorem RowEq.rf (u : iST) (i : Int) : RowEq u u i := ⟨fun _ _ _ => rfl, rfl, fun _ _ _ => rfl⟩
theorem RowEq.tr {u v w : iST} {i : Int} (h : RowEq u v i) (g : RowEq v w i) : RowEq u w i := ⟨fun k a b => (g.1 k a b).trans (h.1 k a b), g.2.1.trans h.2.1, fun j a b => (g.2.2 j a b).trans (h.2.2 j a b)⟩
theorem iA_same {u : iST} {g : Nat} {k x i : Int} : (iA u g k x).2.1 g i = if i = k then x else u.2.1 g i := by
  show (if g = g then (fun y => if y = k then x else u.2.1 g y) else u.2.1 g) i = _
  rw [if_pos rfl]
theorem iA_other {u : iST} {g g' : Nat} {k x : Int} (h : g' ≠ g) : (iA u g k x).2.1 g' = u.2.1 g' := if_neg h
theorem RowEq.set {u : iST} {g : Nat} {i k x : Int} (hi : i ≠ k) (h1 : 92 ≤ g) (h2 : g ≤ 101) : RowEq u (iA u g k x) i := by
  refine ⟨fun g' _ _ => ?_, ?_, fun j _ _ => ?_⟩
  · by_cases e : g' = g
    · subst e
      rw [iA_same, if_neg hi]
    · rw [iA_other e]
  · rw [iA_other (by omega)]
  · rw [iA_other (by omega)]
theorem SameF.fn {u v : iST} (h : SameF u v) {f r : Int} : FnOf u f r → FnOf v f r := by
  obtain ⟨h1, h2, h3, h4, h5⟩ := h
  unfold FnOf
  rw [h1, h2, h4]
  exact id
theorem PR.ext {u v : iST} (hT : TI u) (h : ExtT u v) {k : Int} (e1 : v.2.1 107 k = u.2.1 107 k) (e2 : ∀ j, 0 ≤ j → j < 130 → v.2.1 106 (130 * k + j) = u.2.1 106 (130 * k + j)) (hp : PR u k) : PR v k := by
  unfold PR at *
  rw [e1]
  exact ⟨hp.1, hp.2.1, fun i i0 i1 => by rw [e2 i i0 (by omega)]; exact (hp.2.2 i i0 i1).ext hT h⟩
theorem Jb.ext {u v : iST} (hW : WI u) (h : ExtT u v) (hF : Fx fJ u v) {k R' R C' C : Int} (hr : RowEq u v k) (h103 : ∀ i, R' ≤ i → i < R → v.2.1 103 i = u.2.1 103 i) (hj : Jb u k R' R C' C) : Jb v k R' R C' C := by
  have hT := hW.1.1
  obtain ⟨ht, hj⟩ := hj
  have e := h.1.2.1 _ ht.1.r.1 ht.1.r.2
  have hS : SameF u v := SameF.of hF rfl rfl rfl rfl rfl
  have q := hr.1
  unfold Jb Call
  rw [q 92 (by decide) (by decide), q 94 (by decide) (by decide), q 95 (by decide) (by decide), q 96 (by decide) (by decide), q 97 (by decide) (by decide), q 98 (by decide) (by decide), q 99 (by decide) (by decide), q 100 (by decide) (by decide), q 101 (by decide) (by decide), e.1, fx_a hF 48 rfl, fx_s hF 35 rfl, fx_a hF 39 rfl]
  refine ⟨ht.ext hT h, ?_⟩
  rcases hj with ⟨a, b, c, d⟩ | ⟨a, b, c, d, e⟩ | ⟨a, b, c, d, e⟩ | ⟨a, b, c⟩ | ⟨a, b, c, ⟨n, m, d, e, f, g, i, j, l⟩, p, z⟩ | ⟨a, b, c, d, e, f⟩ | ⟨a, b, ⟨x, c1, c2, c3, c4⟩, d, e⟩ | ⟨a, b, c⟩
  · exact Or.inl ⟨a, b, c, d⟩
  · exact Or.inr (Or.inl ⟨a, b.ext hT h, c.ext hT h, d, e⟩)
  · exact Or.inr (Or.inr (Or.inl ⟨a, b.ext hT h, c.ext hT h, d, e⟩))
  · exact Or.inr (Or.inr (Or.inr (Or.inl ⟨a, b, c⟩)))
  · refine Or.inr (Or.inr (Or.inr (Or.inr (Or.inl ⟨a, b, c, ⟨n, m, d, h.2.2 _ _ b.1 e, f.ext hT h.1, (g.ext h.1 f).imp (fun y hy => hy.ext hT h), i, j, l⟩, fun i i0 i1 => ?_, z⟩))))
    rw [h103 i i0 i1]
    exact (p i i0 i1).ext hT h
  · refine Or.inr (Or.inr (Or.inr (Or.inr (Or.inr (Or.inl ⟨a, b, ?_, d, e, f⟩)))))
    unfold JR
    rw [q 100 (by decide) (by decide), q 101 (by decide) (by decide), fx_s hF 42 rfl]
    exact ⟨c.1, c.2.1, c.2.2.1.ext hT h hF, c.2.2.2.1, c.2.2.2.2.ext hT h hr.2.1 hr.2.2⟩
  · have hb := (hW.2.1 x c1 c2).1.1.r
    refine Or.inr (Or.inr (Or.inr (Or.inr (Or.inr (Or.inr (Or.inl ⟨a, b, ⟨x, c1, c2, hS.fn c3, ?_⟩, d, e⟩))))))
    rw [(h.1.2.1 _ hb.1 hb.2).1]
    exact c4
  · exact Or.inr (Or.inr (Or.inr (Or.inr (Or.inr (Or.inr (Or.inr ⟨a, b, c⟩))))))
theorem JS.ext {u v : iST} {c0 : Int} (hW : WI u) (h : ExtT u v) (hF : Fx fJ u v) : ∀ {k : Nat} {R C : Int}, (∀ i : Nat, i < k → RowEq u v i) → (∀ j, 0 ≤ j → j < R → v.2.1 103 j = u.2.1 103 j) → JS u c0 k R C → JS v c0 k R C
  | 0, _, _, _, _, h1 => h1
  | k + 1, R, C, hr, h103, ⟨R', C', h1, h2⟩ => by
    have r1 := h1.r
    have r2 := h2.r
    exact ⟨R', C', JS.ext hW h hF (fun i hi => hr i (by omega)) (fun j j0 j1 => h103 j j0 (by omega)) h1, h2.ext hW h hF (hr k (by omega)) (fun i i0 i1 => h103 i (by omega) i1)⟩
theorem CX.ext {u v : iST} (hT : TI u) (h : ExtT u v) (e1 : v.1 109 = u.1 109) (e2 : v.2.1 108 = u.2.1 108) (hc : CX u) : CX v := by
  unfold CX at *
  rw [e1, e2]
  exact ⟨hc.1, hc.2.1, fun i i0 i1 => (hc.2.2 i i0 i1).ext hT h⟩
/-- J jobs, of which k wait -/
def Wt (u w : iST) (J k : Nat) (R T C d e : Int) : Prop := WI w ∧ SP fJ u w (d - 10 * J) (e - 2 * J) ∧ w.1 102 = J ∧ J ≤ 60 ∧ JS w (u.1 109) k R C ∧ w.1 104 = T ∧ w.1 109 = C ∧ CX w
theorem Wt.sp {u w v : iST} {J k : Nat} {R T C d e x y : Int} (hu : TI u) (h : Wt u w J k R T C d e) (g : SP fM w v x y) : Wt u v J k R T C (d + x) (e + y) := by
  obtain ⟨a1, a2, a3, a4, a5, a6, a7, a8⟩ := h
  have gJ := g.up fM_J
  have gF := g.2.2.1
  refine ⟨gJ.wi a1, (a2.tr hu gJ).mono (by omega) (by omega), by rw [fx_s gF 102 rfl]; exact a3, a4, a5.ext a1 g.2.1 gJ.2.2.1 (fun i _ => ⟨fun g' h1 h2 => ?_, by rw [fx_a gF 107 rfl], fun j _ _ => by rw [fx_a gF 106 rfl]⟩) (fun j _ _ => by rw [fx_a gF 103 rfl]), by rw [fx_s gF 104 rfl]; exact a6, by rw [fx_s gF 109 rfl]; exact a7, a8.ext a1.1.1 g.2.1 (fx_s gF 109 rfl) (fx_a gF 108 rfl)⟩
  rw [fx_a gF g' (by simp [fM]; omega)]
def fN (k : Nat) : Bool := (decide (92 ≤ k) && decide (k ≤ 101)) || (decide (105 ≤ k) && decide (k ≤ 107)) || decide (k = 112) || decide (k = 113)
theorem fN_J : ∀ k, fJ k = false → fN k = false := fun k hk => by simp [fJ, fM] at hk; simp [fN]; omega
theorem fX_N : ∀ k, fN k = false → fX k = false := fun k hk => by simp [fN] at hk; simp [fX]; omega
theorem SP.rows {w v : iST} (hW : WI w) (hF : Fx fN w v) (hL : v.2.2 = w.2.2) : SP fJ w v 0 0 := SP.same hW (fun _ h => h) (hF.mono fN_J) (fun k hk => hF k (by simp [fN]; omega)) hL (fx_s hF 69 rfl) (fx_s hF 71 rfl) (fx_s hF 60 rfl) (OI_eq hW.2.2.2.1 (fx_s hF 16 rfl) (fx_s hF 22 rfl))
theorem Wt.row {u w v : iST} {J k : Nat} {R T C d e : Int} (hu : TI u) (h : Wt u w J k R T C d e) (hF : Fx fN w v) (hL : v.2.2 = w.2.2) (hr : ∀ i : Nat, i < k → RowEq w v i) : Wt u v J k R T C d e := by
  obtain ⟨a1, a2, a3, a4, a5, a6, a7, a8⟩ := h
  have g := SP.rows a1 hF hL
  exact ⟨g.wi a1, (a2.tr hu g).mono (by omega) (by omega), by rw [fx_s hF 102 rfl]; exact a3, a4, a5.ext a1 g.2.1 g.2.2.1 hr (fun j _ _ => by rw [fx_a hF 103 rfl]), by rw [fx_s hF 104 rfl]; exact a6, by rw [fx_s hF 109 rfl]; exact a7, a8.ext a1.1.1 g.2.1 (fx_s hF 109 rfl) (fx_a hF 108 rfl)⟩
theorem Wt.set {u w : iST} {J k : Nat} {R T C d e x : Int} {g : Nat} (hu : TI u) (h : Wt u w J k R T C d e) (h1 : 92 ≤ g) (h2 : g ≤ 101) : Wt u (iA w g k x) J k R T C d e := h.row hu (Fx_A (k := g) (by simp [fN]; omega)) rfl (fun i hi => RowEq.set (by omega) h1 h2)
/-- numbers that no table hangs on -/
theorem SP.num {u w v : iST} {d e : Int} (hu : TI u) (h : SP fJ u w d e) (hW : WI w) (h2 : v.2 = w.2) (h1 : ∀ g, g ≠ 61 → g ≠ 102 → g ≠ 104 → g ≠ 109 → g ≠ 110 → g ≠ 111 → v.1 g = w.1 g) : SP fJ u v d e ∧ WI v ∧ ExtT w v ∧ Fx fJ w v := by
  have hF : Fx fJ w v := fun k hk => by
    have : k ≠ 61 ∧ k ≠ 102 ∧ k ≠ 104 ∧ k ≠ 109 ∧ k ≠ 110 ∧ k ≠ 111 := by simp [fJ, fM] at hk; omega
    exact ⟨h1 k this.1 this.2.1 this.2.2.1 this.2.2.2.1 this.2.2.2.2.1 this.2.2.2.2.2, by rw [h2]⟩
  have g : SP fJ w v 0 0 := SP.same hW (fun _ h => h) hF (fun k hk => ⟨h1 k (by omega) (by omega) (by omega) (by omega) (by omega) (by omega), by rw [h2]⟩) (by rw [h2]) (h1 69 (by decide) (by decide) (by decide) (by decide) (by decide) (by decide)) (h1 71 (by decide) (by decide) (by decide) (by decide) (by decide) (by decide)) (h1 60 (by decide) (by decide) (by decide) (by decide) (by decide) (by decide)) (OI_eq hW.2.2.2.1 (h1 16 (by decide) (by decide) (by decide) (by decide) (by decide) (by decide)) (h1 22 (by decide) (by decide) (by decide) (by decide) (by decide) (by decide)))
  exact ⟨(h.tr hu g).mono (by omega) (by omega), g.wi hW, g.2.1, hF⟩
/-- after a turn: stopped, or a job begins, or a result is at hand -/
def EX (u : iST) (N : Nat) (w : iST) : Prop := SP fJ u w 600 16 ∧ WI w ∧ (w.1 61 = 0 → ∃ (J : Nat) (R C : Int), (w.1 111 = 0 ∧ ∃ k, J = k + 1 ∧ Wt u w J k R R C 10 2 ∧ TJ w (w.2.1 92 k) ∧ (N : Int) = 5 * (w.1 59 - w.1 60) + 2 * J + 1) ∨ (w.1 111 ≠ 0 ∧ Wt u w J J R R C 10 2 ∧ TJ w (w.1 110) ∧ (N : Int) = 5 * (w.1 59 - w.1 60) + 2 * J))
theorem EX.stop {u w : iST} {d e : Int} (h : SP fJ u w d e) (hW : WI w) (hd : d ≤ 600) (he : e ≤ 16) (h61 : w.1 61 ≠ 0) : EX u 0 w := ⟨h.mono hd he, hW, fun z => absurd z h61⟩
theorem s_isStep {Q : Int → iST → Prop} {u : iST} (h0 : 0 ≤ u.1 60) (h1 : u.1 60 ≤ 1000) (hy : u.1 60 ≠ u.1 59 → Q 1 (iI u 60 (u.1 60 + 1))) (hn : ∀ v, (v = u ∨ v = iI u 61 1) → v.1 61 ≠ 0 → Q 0 v) : w_isStep Q u := by
  unfold w_isStep
  refine rd_i fun _ => rd_i fun _ => br_i (fun hc => rd_i fun _ => ov_i (by omega) (by omega) (sw_i (zt_1 (hy hc)))) (fun _ => s_fail fun v hv h0 h1 => zt_0 (hn v hv ?_))
  by_cases e : u.1 61 = 0
  · rw [h0 e]; decide
  · rw [h1 e]; exact e
theorem g_beginJob {u w : iST} {t tr : Int} {J n : Nat} {R C d e : Int} {Q : iST → Prop} (hu : TI u) (h : Wt u w J J R R C d e) (hd : d ≤ 260) (he : e ≤ 4) (ht : IsT w t) (hs : Sm w t) (htr : bz tr) (hn : 5 * (w.1 59 - w.1 60) + 2 * J ≤ n) (hn0 : 0 < n) (hq : ∀ (N : Nat) v, EX u N v → N < n → Q v) : w_beginJob t tr Q w := by
  obtain ⟨a1, a2, a3, a4, a5, a6, a7, a8⟩ := h
  unfold w_beginJob
  refine zt_0 (sw_i (rd_i fun _ => br_i (fun h61 => rd_i fun _ => br_i (fun hne => ?_) (fun _ => ?_)) (fun h61 => ?_)))
  · have h61 : w.1 61 = 0 := h61
    have hne : w.1 102 ≠ 60 := hne
    have hwi := a1.2.2.2.2.2
    refine s_isStep hwi.1 (show w.1 60 ≤ 1000 by omega) (fun hst => br_y (by decide) ?_) (fun v hv hv61 => br_n (fun z => z rfl) ?_)
    · have hst : w.1 60 ≠ w.1 59 := hst
      refine rd_i fun _ => bd_i (show 0 ≤ w.1 102 by omega) (show w.1 102 < 60 by omega) (sw_i (rd_i fun _ => ?_))
      refine (show zt tr _ from ⟨htr, ?_⟩)
      refine bd_i (show 0 ≤ w.1 102 by omega) (show w.1 102 < 60 by omega) (sw_i (rd_i fun _ => bd_i (show 0 ≤ w.1 102 by omega) (show w.1 102 < 60 by omega) (sw_i (rd_i fun _ => ov_i (show -2147483648 ≤ w.1 102 + 1 by omega) (show w.1 102 + 1 < 2147483648 by omega) (sw_i ?_)))))
      show Q (iI (iA (iA (iA (iI (iI w 111 0) 60 (w.1 60 + 1)) 92 (w.1 102) t) 93 (w.1 102) tr) 94 (w.1 102) 0) 102 (w.1 102 + 1))
      rw [a3]
      generalize hv : iI (iA (iA (iA (iI (iI w 111 0) 60 (w.1 60 + 1)) 92 (J : Int) t) 93 (J : Int) tr) 94 (J : Int) 0) 102 ((J : Int) + 1) = v
      have v1 : ∀ g, g ≠ 111 → g ≠ 60 → g ≠ 102 → v.1 g = w.1 g := fun g g1 g2 g3 => by rw [← hv]; exact (if_neg g3).trans ((if_neg g2).trans (if_neg g1))
      have v60 : v.1 60 = w.1 60 + 1 := by rw [← hv]; rfl
      have v102 : v.1 102 = J + 1 := by rw [← hv]; rfl
      have v111 : v.1 111 = 0 := by rw [← hv]; rfl
      have v92 : v.2.1 92 J = t := by rw [← hv]; exact if_pos rfl
      have vL : v.2.2 = w.2.2 := by rw [← hv]; rfl
      have vF : Fx fJ w v := by rw [← hv]; exact (((((Fx_I (k := 111) rfl).tr (Fx_I (k := 60) rfl)).tr (Fx_A (k := 92) rfl)).tr (Fx_A (k := 93) rfl)).tr (Fx_A (k := 94) rfl)).tr (Fx_I (k := 102) rfl)
      have vg : ∀ g, g ≠ 92 → g ≠ 93 → g ≠ 94 → v.2.1 g = w.2.1 g := fun g g1 g2 g3 => by rw [← hv]; exact (if_neg g3).trans ((if_neg g2).trans (if_neg g1))
      have vr : ∀ i : Nat, i < J → RowEq w v i := fun i hi => by
        have hij : (i : Int) ≠ J := by omega
        rw [← hv]
        exact ((RowEq.set (g := 92) hij (by decide) (by decide)).tr (RowEq.set (g := 93) hij (by decide) (by decide))).tr (RowEq.set (g := 94) hij (by decide) (by decide))
      clear hv
      have vt : ∀ k, k ≤ 11 → v.1 k = w.1 k ∧ v.2.1 k = w.2.1 k := fun k hk => ⟨v1 k (by omega) (by omega) (by omega), vg k (by omega) (by omega) (by omega)⟩
      have vE : ExtT w v := ExtT.same vt vL (SameF.of vF rfl rfl rfl rfl rfl)
      have v59 := fx_s vF 59 rfl
      have v8 := (vt 8 (by decide)).1
      have v6 := (vt 6 (by decide)).1
      have vSP : SP fJ w v (-260) (-4) := ⟨TI_eq a1.1.1 vt vL, vE, vF, by rw [v1 69 (by decide) (by decide) (by decide)]; exact a1.1.2.2.1, by rw [v1 71 (by decide) (by decide) (by decide)]; exact a1.1.2.2.2, by omega, by omega, by omega, by omega, (vt 11 (by decide)).1, OI_eq a1.2.2.2.1 (v1 16 (by decide) (by decide) (by decide)) (v1 22 (by decide) (by decide) (by decide))⟩
      have vW := vSP.wi a1
      have uSP := a2.tr hu vSP
      have v61 : v.1 61 = 0 := by rw [v1 61 (by decide) (by decide) (by decide)]; exact h61
      have vWt : Wt u v (J + 1) J R R C 10 2 := ⟨vW, uSP.mono (by omega) (by omega), by rw [v102]; omega, by omega, a5.ext a1 vE vF vr (fun j _ _ => by rw [vg 103 (by decide) (by decide) (by decide)]), by rw [v1 104 (by decide) (by decide) (by decide)]; exact a6, by rw [v1 109 (by decide) (by decide) (by decide)]; exact a7, a8.ext a1.1.1 vE (v1 109 (by decide) (by decide) (by decide)) (vg 108 (by decide) (by decide) (by decide))⟩
      refine hq (5 * (w.1 59 - w.1 60) + 2 * J - 2).toNat v ⟨uSP.mono (by omega) (by omega), vW, fun _ => ⟨J + 1, R, C, Or.inl ⟨v111, J, rfl, vWt, ?_, by omega⟩⟩⟩ (by omega)
      rw [v92]
      exact TJ.ext a1.1.1 vE ⟨ht, hs h61⟩
    · obtain ⟨b1, b2, _⟩ := SP.num (v := v) hu a2 a1 (by rcases hv with rfl | rfl <;> rfl) (fun g g1 g2 g3 g4 g5 g6 => by rcases hv with rfl | rfl; exact if_neg g6; exact (if_neg g1).trans (if_neg g6))
      exact hq 0 v (EX.stop b1 b2 (by omega) (by omega) hv61) hn0
  · have h61 : w.1 61 = 0 := h61
    refine s_fail fun v hv hv0 hv1 => ?_
    obtain ⟨b1, b2, _⟩ := SP.num (v := v) hu a2 a1 (by rcases hv with rfl | rfl <;> rfl) (fun g g1 g2 g3 g4 g5 g6 => by rcases hv with rfl | rfl; exact if_neg g6; exact (if_neg g1).trans (if_neg g6))
    exact hq 0 v (EX.stop b1 b2 (by omega) (by omega) (by rw [hv0 h61]; decide)) hn0
  · obtain ⟨b1, b2, _⟩ := SP.num (v := iI w 111 0) hu a2 a1 rfl (fun g g1 g2 g3 g4 g5 g6 => if_neg g6)
    exact hq 0 _ (EX.stop b1 b2 (by omega) (by omega) h61) hn0
