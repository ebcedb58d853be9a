/-! a state within check: nothing but fields of rows is changed, no STEP is taken, no row is laid -/
def LZ (u v : iST) (c e : Int) : Prop := WI v ∧ SP fLy u v c e ∧ v.1 117 = 0 ∧ v.1 60 = u.1 60
theorem LZ.rf {u : iST} (hW : WI u) (h : u.1 117 = 0) : LZ u u 0 0 := ⟨hW, SP.rf hW, h, rfl⟩
theorem LZ.mono {u v : iST} {c e c' e' : Int} (h : LZ u v c e) (hc : c ≤ c') (he : e ≤ e') : LZ u v c' e' := ⟨h.1, h.2.1.mono hc he, h.2.2⟩
theorem LZ.step {u v w : iST} {c e c' e' : Int} (hu : TI u) (h : LZ u v c e) (g : SP fLy v w c' e') (h1 : w.1 117 = v.1 117) (h2 : w.1 60 = v.1 60) : LZ u w (c + c') (e + e') := ⟨g.wiL h.1, h.2.1.tr hu g, h1.trans h.2.2.1, h2.trans h.2.2.2⟩
theorem LZ.tr {u v w : iST} {c e c' e' : Int} (hu : TI u) (h : LZ u v c e) (g : LZ v w c' e') : LZ u w (c + c') (e + e') := ⟨g.1, h.2.1.tr hu g.2.1, g.2.2.1, g.2.2.2.trans h.2.2.2⟩
theorem LZ.gp {u v w : iST} {c e d : Int} (hu : TI u) (h : LZ u v c e) (g : GP v w d) : LZ u w (c + d) e := (h.step hu ((g.sp h.1).up fM_L) (fx_s g.2.2.1 117 rfl) (fx_s g.2.2.1 60 rfl)).mono (Int.le_refl _) (by omega)
theorem LZ.ep {u v w : iST} {c e d d' : Int} (hu : TI u) (h : LZ u v c e) (g : EP v w d d') (g60 : w.1 60 = v.1 60) : LZ u w (c + d) (e + d') := by
  obtain ⟨a1, a2, a3, a4, a5, a6, a7, a8⟩ := g
  have hW := h.1
  have e59 := fx_s a3 59 rfl
  have w60 := hW.2.2.2.2.2.2.1
  have hS : SP fLy v w d d' := ⟨a1, a2, a3.mono (fun k hk => by simp [fLy, fC, fJ, fM] at hk; simp [fE]; omega), by rw [fx_s a3 69 rfl]; exact hW.1.2.2.1, by rw [fx_s a3 71 rfl]; exact hW.1.2.2.2, by omega, by omega, by omega, by omega, a8, OI_eq hW.2.2.2.1 (fx_s a3 16 rfl) (fx_s a3 22 rfl)⟩
  exact h.step hu hS (fx_s a3 117 rfl) g60
theorem LZ.path {u v w : iST} {c e d : Int} (hu : TI u) (h : LZ u v c e) (g : PathSt v w) (h8 : w.1 8 ≤ v.1 8 + d) : LZ u w (c + d) e := by
  obtain ⟨a1, a2, a3, a4, a5, a6⟩ := g
  have hW := h.1
  have e59 := fx_s a3 59 rfl
  have e60 := fx_s a3 60 rfl
  have w60 := hW.2.2.2.2.2.2.1
  have hS : SP fLy v w d 0 := ⟨a1.1, a2, a3.mono (fun k hk => by simp [fLy, fC, fJ, fM] at hk; simp [fPt, fB]; omega), a1.2.2.1, a1.2.2.2, by omega, by omega, by omega, by omega, a5, OI_eq hW.2.2.2.1 (fx_s a3 16 rfl) (fx_s a3 22 rfl)⟩
  exact (h.step hu hS (fx_s a3 117 rfl) e60).mono (Int.le_refl _) (by omega)
theorem LZ.same {u v w : iST} {c e : Int} (hu : TI u) (h : LZ u v c e) (hF : Fx fLq v w) (hL : w.2.2 = v.2.2) (h117 : w.1 117 = v.1 117) : LZ u w c e ∧ ExtT v w := by
  have hS : SP fLy v w 0 0 := SP.sameL h.1 hF hL
  exact ⟨(h.step hu hS h117 (fx_s hF 60 rfl)).mono (by omega) (by omega), hS.2.1⟩
theorem LZ.ly {u v : iST} {c e : Int} (h : LZ u v c e) : Ly u v c e := ⟨h.1, h.2.1, by rw [h.2.2.1]; exact Int.le_refl _, fun r r0 r1 => by rw [h.2.2.1] at r1; omega⟩
theorem LZ.e8 {u v : iST} {c e : Int} (h : LZ u v c e) : v.1 8 ≤ u.1 8 + c := by
  have h1 := h.2.1.2.2.2.2.2.2.2.1
  have h2 := h.2.2.2
  omega
theorem LZ.e6 {u v : iST} {c e : Int} (h : LZ u v c e) : v.1 6 ≤ u.1 6 + e := by
  have h1 := h.2.1.2.2.2.2.2.2.2.2.1
  have h2 := h.2.2.2
  omega
theorem LZ.ex {u v : iST} {c e : Int} (h : LZ u v c e) : ExtT u v := h.2.1.2.1
theorem LZ.fx {u v : iST} {c e : Int} (h : LZ u v c e) : Fx fLy u v := h.2.1.2.2.1
theorem LZ.sf {u v : iST} {c e : Int} (h : LZ u v c e) : SameF u v := SameF.of h.fx rfl rfl rfl rfl rfl
/-! forms of a PROOF -/
def TO (u : iST) (x : Int) : Prop := tS u x ≤ 120
theorem TO.ext {u v : iST} (hT : TI u) (hV : TI v) (h : ExtT u v) {x : Int} (x0 : 0 ≤ x) (x1 : x < u.1 8) (hx : TO u x) : TO v x := by
  unfold TO at *
  rw [(t_good hT hV h x0 x1).1 (by omega)]
  exact hx
theorem dr_ext {u v : iST} (hT : TI u) (h : Ext u v) {o : Int} {n : Nat} (hl : IsL u o n) : ∀ i, i ≤ n → dr v o i = dr u o i := by
  intro i
  induction i with
  | zero => intro _; rfl
  | succ i ih =>
    intro hi
    have r := dr_r hT hl (i := i) (by omega)
    rw [dr_next, dr_next, ih (by omega), (h.2.1 _ r.1 r.2).2.1]
def IndF (u : iST) (o : Int) (n : Nat) : Prop := TO u (el u o 1) ∧ 0 ≤ u.2.1 0 (el u o 2) ∧ ∃ (d : Int) (N : Nat), 0 ≤ d ∧ d < u.1 35 ∧ u.2.1 36 d = u.2.1 0 (el u o 2) ∧ u.2.1 41 d ≠ 0 ∧ (∀ e, 0 ≤ e → e < d → u.2.1 36 e ≠ u.2.1 36 d) ∧ u.2.1 37 d = N ∧ IsL u (u.2.1 1 (el u o 2)) N ∧ (∀ i, i < N → u.2.1 0 (el u (u.2.1 1 (el u o 2)) i) = -2) ∧ (n : Int) = 3 + cI u (u.2.1 39 d)
def FormR (u : iST) (o : Int) (n : Nat) : Prop :=
  ((u.2.1 0 o = 29 ∨ u.2.1 0 o = 30) ∧ n = 2 ∧ TO u (el u o 1)) ∨
  (u.2.1 0 o = 31 ∧ n = 2 ∧ TO u (el u o 1) ∧ ToldX u (el u o 1)) ∨
  ((u.2.1 0 o = 32 ∨ u.2.1 0 o = 33 ∨ u.2.1 0 o = 34) ∧ n = 3 ∧ TO u (el u o 1) ∧ TO u (el u o 2)) ∨
  ((u.2.1 0 o = 35 ∨ u.2.1 0 o = 36) ∧ n = 4 ∧ TO u (el u o 1) ∧ TO u (el u o 2) ∧ TO u (el u o 3)) ∨
  (u.2.1 0 o = 37 ∧ n = 2 ∧ ∃ d, 0 ≤ d ∧ d < u.1 35 ∧ u.2.1 36 d = el u o 1) ∨
  (u.2.1 0 o = 38 ∧ n = 2 ∧ ∃ k, 0 ≤ k ∧ k < u.1 42 ∧ u.2.1 43 k = el u o 1) ∨
  (u.2.1 0 o = 39 ∧ n = 3 ∧ ∃ m : Nat, IsL u (el u o 1) m ∧ ∀ i, i < m → TO u (el u (el u o 1) i)) ∨
  (u.2.1 0 o = 40 ∧ n = 4 ∧ TO u (el u o 1)) ∨
  (u.2.1 0 o = 41 ∧ 2 ≤ n ∧ ∃ m : Nat, PairsOk u (dr u o 2) m) ∨
  (u.2.1 0 o = 42 ∧ n = 2) ∨
  (u.2.1 0 o = 43 ∧ n = 3) ∨
  (u.2.1 0 o = 27 ∧ 3 ≤ n ∧ IndF u o n)
def FormOk (u : iST) (o : Int) (n : Nat) : Prop := 1 ≤ n ∧ IsL u o n ∧ FormR u o n
theorem FormOk.r {u : iST} {o : Int} {n : Nat} (h : FormOk u o n) : 0 ≤ o ∧ o < u.1 8 ∧ 27 ≤ u.2.1 0 o ∧ u.2.1 0 o ≤ 43 := by
  obtain ⟨h1, h2, h3⟩ := h
  cases n with
  | zero => omega
  | succ n =>
    refine ⟨h2.1, h2.2.1, ?_⟩
    unfold FormR at h3
    omega
theorem IndF.ext {u v : iST} (hT : TI u) (hV : TI v) (h : ExtT u v) (e35 : v.1 35 = u.1 35) (dA : ∀ d, DAg u v d) (hC : Core u) {o : Int} {n : Nat} (hl : IsL u o n) (n3 : 3 ≤ n) (hx : IndF u o n) : IndF v o n := by
  obtain ⟨a, b, d, N, d0, d1, d2, d3, d4, d5, d6, d7, d8⟩ := hx
  have r1 := IsL.elr hT hl 1 (by omega)
  have r2 := IsL.elr hT hl 2 (by omega)
  have e2 := h.1.2.1 _ r2.1 r2.2
  have q := dA d
  have hb := (hC.2.2.2.1 d d0 d1).2.1
  unfold IndF
  rw [el_ext h.1 hl 1 (by omega), el_ext h.1 hl 2 (by omega), e2.1, e2.2.1]
  refine ⟨a.ext hT hV h r1.1 r1.2, b, d, N, d0, by omega, by rw [q.1]; exact d2, by rw [q.2.2.2.2.1]; exact d3, fun e e0 e1 => by rw [(dA e).1, q.1]; exact d4 e e0 e1, by rw [q.2.1]; exact d5, d6.ext hT h.1, fun i hi => ?_, ?_⟩
  · have ri := IsL.elr hT d6 i hi
    rw [el_ext h.1 d6 i hi, (h.1.2.1 _ ri.1 ri.2).1]
    exact d7 i hi
  · rw [q.2.2.1, cI_ext hT hV h ⟨hb.1.1, hb.2⟩]
    exact d8
theorem FormOk.ext {u v : iST} (hT : TI u) (hV : TI v) (h : ExtT u v) (e35 : v.1 35 = u.1 35) (e42 : v.1 42 = u.1 42) (e43 : v.2.1 43 = u.2.1 43) (dA : ∀ d, DAg u v d) (hC : Core u) {o : Int} {n : Nat} (hx : FormOk u o n) : FormOk v o n := by
  have r := hx.r
  obtain ⟨h1, h2, h3⟩ := hx
  have e := h.1.2.1 o r.1 r.2.1
  have er : ∀ i, i < n → 0 ≤ el u o i ∧ el u o i < u.1 8 := fun i hi => IsL.elr hT h2 i hi
  have ee : ∀ i, i < n → el v o i = el u o i := fun i hi => el_ext h.1 h2 i hi
  have to : ∀ i, i < n → TO u (el u o i) → TO v (el v o i) := fun i hi z => by rw [ee i hi]; exact z.ext hT hV h (er i hi).1 (er i hi).2
  refine ⟨h1, h2.ext hT h.1, ?_⟩
  unfold FormR at *
  rw [e.1]
  rcases h3 with ⟨a, b, c⟩ | ⟨a, b, c, d⟩ | ⟨a, b, c, d⟩ | ⟨a, b, c, d, f⟩ | ⟨a, b, d, d0, d1, d2⟩ | ⟨a, b, k, k0, k1, k2⟩ | ⟨a, b, m, c, d⟩ | ⟨a, b, c⟩ | ⟨a, b, m, c⟩ | ⟨a, b⟩ | ⟨a, b⟩ | ⟨a, b, c⟩
  · exact Or.inl ⟨a, b, to 1 (by omega) c⟩
  · exact Or.inr (Or.inl ⟨a, b, to 1 (by omega) c, by rw [ee 1 (by omega)]; exact d.ext hT h.1 (er 1 (by omega)).1 (er 1 (by omega)).2⟩)
  · exact Or.inr (Or.inr (Or.inl ⟨a, b, to 1 (by omega) c, to 2 (by omega) d⟩))
  · exact Or.inr (Or.inr (Or.inr (Or.inl ⟨a, b, to 1 (by omega) c, to 2 (by omega) d, to 3 (by omega) f⟩)))
  · exact Or.inr (Or.inr (Or.inr (Or.inr (Or.inl ⟨a, b, d, d0, by omega, by rw [(dA d).1, ee 1 (by omega)]; exact d2⟩))))
  · exact Or.inr (Or.inr (Or.inr (Or.inr (Or.inr (Or.inl ⟨a, b, k, k0, by omega, by rw [e43, ee 1 (by omega)]; exact k2⟩)))))
  · refine Or.inr (Or.inr (Or.inr (Or.inr (Or.inr (Or.inr (Or.inl ⟨a, b, m, ?_, fun i hi => ?_⟩))))))
    · rw [ee 1 (by omega)]; exact c.ext hT h.1
    · rw [ee 1 (by omega), el_ext h.1 c i hi]
      have ri := IsL.elr hT c i hi
      exact (d i hi).ext hT hV h ri.1 ri.2
  · exact Or.inr (Or.inr (Or.inr (Or.inr (Or.inr (Or.inr (Or.inr (Or.inl ⟨a, b, to 1 (by omega) c⟩)))))))
  · exact Or.inr (Or.inr (Or.inr (Or.inr (Or.inr (Or.inr (Or.inr (Or.inr (Or.inl ⟨a, b, m, by rw [dr_ext hT h.1 h2 2 b]; exact c.ext hT hV h⟩))))))))
  · exact Or.inr (Or.inr (Or.inr (Or.inr (Or.inr (Or.inr (Or.inr (Or.inr (Or.inr (Or.inl ⟨a, b⟩)))))))))
  · exact Or.inr (Or.inr (Or.inr (Or.inr (Or.inr (Or.inr (Or.inr (Or.inr (Or.inr (Or.inr (Or.inl ⟨a, b⟩))))))))))
  · exact Or.inr (Or.inr (Or.inr (Or.inr (Or.inr (Or.inr (Or.inr (Or.inr (Or.inr (Or.inr (Or.inr ⟨a, b, c.ext hT hV h e35 dA hC h2 b⟩))))))))))
/-- the places of a rule's parts -/
def pFr (r : Int) : Nat := if r = 27 then 3 else if r = 39 ∨ r = 40 then 2 else if r = 41 ∨ r = 42 ∨ r = 43 then 1 else 0
def pTo (r : Int) (n : Nat) : Nat := if r = 27 then n else if r = 39 then 3 else if r = 40 then 4 else if r = 41 ∨ r = 42 then 2 else if r = 43 then 3 else 0
theorem FormOk.parts {u : iST} {o : Int} {n : Nat} (h : FormOk u o n) : pFr (u.2.1 0 o) ≤ pTo (u.2.1 0 o) n ∧ pTo (u.2.1 0 o) n ≤ n := by
  obtain ⟨h1, h2, h3⟩ := h
  unfold FormR at h3
  unfold pFr pTo
  rcases h3 with ⟨a, b, c⟩ | ⟨a, b, c, d⟩ | ⟨a, b, c, d⟩ | ⟨a, b, c, d, f⟩ | ⟨a, b, d⟩ | ⟨a, b, k⟩ | ⟨a, b, m⟩ | ⟨a, b, c⟩ | ⟨a, b, m⟩ | ⟨a, b⟩ | ⟨a, b⟩ | ⟨a, b, c⟩ <;> (repeat' split) <;> omega
/-- words that are left from part j on; words of its own -/
def rmW (u : iST) (o : Int) (j n : Nat) : Int := wB u (dr u o j) - wB u (dr u o (pTo (u.2.1 0 o) n))
def owW (u : iST) (o : Int) (n : Nat) : Int := wA u o - rmW u o (pFr (u.2.1 0 o)) n
theorem wB_dext {u v : iST} (hT : TI u) (hV : TI v) (h : Ext u v) {o : Int} {n : Nat} (hl : IsL u o n) (i : Nat) (hi : i ≤ n) : wB v (dr v o i) = wB u (dr u o i) := by
  have r := dr_r hT hl hi
  rw [dr_ext hT h hl i hi, (w_ext hT hV h r.1 r.2).2]
theorem rmW_ext {u v : iST} (hT : TI u) (hV : TI v) (h : Ext u v) {o : Int} {n : Nat} (hx : FormOk u o n) (j : Nat) (hj : j ≤ n) : rmW v o j n = rmW u o j n := by
  have r := hx.r
  unfold rmW
  rw [(h.2.1 o r.1 r.2.1).1, wB_dext hT hV h hx.2.1 j hj, wB_dext hT hV h hx.2.1 _ hx.parts.2]
theorem owW_ext {u v : iST} (hT : TI u) (hV : TI v) (h : Ext u v) {o : Int} {n : Nat} (hx : FormOk u o n) : owW v o n = owW u o n := by
  have r := hx.r
  have p := hx.parts
  unfold owW
  rw [(h.2.1 o r.1 r.2.1).1, (w_ext hT hV h r.1 r.2.1).1, rmW_ext hT hV h hx _ (by omega)]
/-- one part -/
theorem rmW_part {u : iST} (hT : TI u) {o : Int} {n j : Nat} (hl : IsL u o n) (hj : j < n) : rmW u o j n = wA u (el u o j) + rmW u o (j + 1) n := by
  unfold rmW
  rw [wB_dr hT hl hj]
  omega
