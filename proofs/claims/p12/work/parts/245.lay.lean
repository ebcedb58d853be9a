/-! rows are laid -/
def fLy (k : Nat) : Bool := fC k || (decide (75 ≤ k) && decide (k ≤ 78)) || (decide (123 ≤ k) && decide (k ≤ 131)) || decide (k = 140)
def fLq (k : Nat) : Bool := fQ k || (decide (72 ≤ k) && decide (k ≤ 78)) || (decide (123 ≤ k) && decide (k ≤ 131)) || decide (k = 140)
theorem fC_L : ∀ k, fLy k = false → fC k = false := fun k hk => by simp only [fLy, Bool.or_eq_false_iff] at hk; exact hk.1.1.1
theorem fM_L : ∀ k, fLy k = false → fM k = false := fun k hk => fM_C k (fC_L k hk)
theorem fLq_L : ∀ k, fLy k = false → fLq k = false := fun k hk => by simp [fLy, fC, fJ, fM] at hk; simp [fLq, fQ]; omega
theorem fQ_Lq : ∀ k, fLq k = false → fQ k = false := fun k hk => by simp only [fLq, Bool.or_eq_false_iff] at hk; exact hk.1.1.1
theorem RuleOk.extL {u v : iST} (hT : TI u) (h : ExtT u v) (hF : Fx fLy u v) {r : Int} (hr : RuleOk u r) : RuleOk v r := by
  obtain ⟨a1, a2, a3, a4, a5, a6⟩ := hr
  have e := h.1.2.1 _ a1.1.r.1 a1.1.r.2
  unfold RuleOk
  rw [fx_a hF 46 rfl, fx_a hF 47 rfl, fx_a hF 48 rfl, fx_a hF 49 rfl, e.1]
  exact ⟨a1.ext hT h, a2, a3.ext hT h, a4, a5, fun i i0 i1 => (a6 i i0 i1).ext hT h⟩
theorem SP.wiL {u v : iST} {d e : Int} (h : SP fLy u v d e) (hW : WI u) : WI v := by
  obtain ⟨a1, a2, a3, a4, a5, a6, a7, a8, a9, a10, a11⟩ := h
  obtain ⟨b1, b2, b3, b4, b5, b6, b7, b8⟩ := hW
  refine ⟨⟨a1, b1.2.1.ext a2.1 (SameF.of a3 rfl rfl rfl rfl rfl), a4, a5⟩, b2.ext b1.1 a1 a2 a3 rfl rfl rfl rfl, ?_, a11, by rw [fx_s a3 57 rfl]; exact b5, by omega, a7, by rw [fx_s a3 59 rfl]; exact b8⟩
  unfold RU
  rw [fx_s a3 42 rfl, fx_a a3 46 rfl]
  exact ⟨b3.1, b3.2.1, fun r r0 r1 => (b3.2.2 r r0 r1).imp id (fun z => z.extL b1.1 a2 a3)⟩
theorem SP.sameL {u v : iST} (hW : WI u) (hF : Fx fLq u v) (hL : v.2.2 = u.2.2) : SP fLy u v 0 0 := by
  obtain ⟨b1, b2, b3, b4, b5, b6, b7, b8⟩ := hW
  have ht : ∀ k, k ≤ 11 → v.1 k = u.1 k ∧ v.2.1 k = u.2.1 k := fun k hk => hF k (by simp [fLq, fQ]; omega)
  have hR := hF.mono fLq_L
  have e59 := fx_s hR 59 rfl
  have e60 := fx_s hF 60 rfl
  have e8 := (ht 8 (by decide)).1
  have e6 := (ht 6 (by decide)).1
  exact ⟨TI_eq b1.1 ht hL, ExtT.same ht hL (SameF.of hR rfl rfl rfl rfl rfl), hR, by rw [fx_s hF 69 rfl]; exact b1.2.2.1, by rw [fx_s hF 71 rfl]; exact b1.2.2.2, by omega, by omega, by omega, by omega, (ht 11 (by decide)).1, OI_eq b4 (fx_s hF 16 rfl) (fx_s hF 22 rfl)⟩
/-- a state in which rows are laid -/
def Ly (u v : iST) (d e : Int) : Prop := WI v ∧ SP fLy u v d e ∧ 0 ≤ v.1 117 ∧ ∀ r, 0 ≤ r → r < v.1 117 → Cl v r
theorem Ly.step {u v w : iST} {d e c c' : Int} (hu : TI u) (h : Ly u v d e) (g : SP fLy v w c c') (h0 : 0 ≤ w.1 117) (hr : ∀ r, 0 ≤ r → r < w.1 117 → Cl w r) : Ly u w (d + c) (e + c') := ⟨g.wiL h.1, h.2.1.tr hu g, h0, hr⟩
theorem Ly.mono {u v : iST} {d e d' e' : Int} (h : Ly u v d e) (hd : d ≤ d') (he : e ≤ e') : Ly u v d' e' := ⟨h.1, h.2.1.mono hd he, h.2.2⟩
theorem DR.keep {v w : iST} (hT : TI v) (hE : ExtT v w) (h2 : w.1 122 = v.1 122) (h1 : w.2.1 121 = v.2.1 121) (h6 : w.1 61 = 0 → v.1 61 = 0) (h : DR v) : DR w := by
  obtain ⟨a, b⟩ := h
  unfold DR
  rw [h2, h1]
  exact ⟨a, fun i i0 i1 => ⟨(b i i0 i1).1.ext hT hE, fun z => by rw [hE.szx (b i i0 i1).1]; exact (b i i0 i1).2 (h6 z)⟩⟩
theorem Ly.gp {u v w : iST} {d e c : Int} (hu : TI u) (h : Ly u v d e) (g : GP v w c) : Ly u w (d + c) e := by
  have hT := h.1.1.1
  have hF := g.2.2.1
  have hS : SP fLy v w c 0 := (g.sp h.1).up fM_L
  have := h.step hu hS (by rw [fx_s hF 117 rfl]; exact h.2.2.1) (fun r r0 r1 => by
    rw [fx_s hF 117 rfl] at r1
    exact (h.2.2.2 r r0 r1).ext hT g.2.1 (by rw [fx_a hF 115 rfl]) (fun i _ _ => by rw [fx_a hF 114 rfl]) (by rw [fx_a hF 116 rfl]))
  exact this.mono (Int.le_refl _) (by omega)
theorem Ly.put {u v w : iST} {d e : Int} (hu : TI u) (h : Ly u v d e) (hF : Fx fD v w) (hL : w.2.2 = v.2.2) : Ly u w d e := by
  have hT := h.1.1.1
  have hS : SP fLy v w 0 0 := SP.sameL h.1 (hF.mono (fun k hk => by simp [fLq, fQ] at hk; simp [fD]; omega)) hL
  have := h.step hu hS (by rw [fx_s hF 117 rfl]; exact h.2.2.1) (fun r r0 r1 => by
    rw [fx_s hF 117 rfl] at r1
    exact (h.2.2.2 r r0 r1).ext hT hS.2.1 (by rw [fx_a hF 115 rfl]) (fun i _ _ => by rw [fx_a hF 114 rfl]) (by rw [fx_a hF 116 rfl]))
  exact this.mono (by omega) (by omega)
def fZ (k : Nat) : Bool := (decide (72 ≤ k) && decide (k ≤ 78)) || (decide (123 ≤ k) && decide (k ≤ 131)) || decide (k = 140)
theorem fZ_Lq : ∀ k, fLq k = false → fZ k = false := fun k hk => by simp [fLq] at hk; simp [fZ]; omega
theorem fFd_Z : ∀ k, fZ k = false → fFd k = false := fun k hk => by simp [fZ] at hk; simp [fFd]; omega
theorem Ly.fz {u v w : iST} {d e : Int} (hu : TI u) (h : Ly u v d e) (hF : Fx fZ v w) (hL : w.2.2 = v.2.2) : Ly u w d e ∧ ExtT v w := by
  have hT := h.1.1.1
  have hS : SP fLy v w 0 0 := SP.sameL h.1 (hF.mono fZ_Lq) hL
  have := h.step hu hS (by rw [fx_s hF 117 rfl]; exact h.2.2.1) (fun r r0 r1 => by
    rw [fx_s hF 117 rfl] at r1
    exact (h.2.2.2 r r0 r1).ext hT hS.2.1 (by rw [fx_a hF 115 rfl]) (fun i _ _ => by rw [fx_a hF 114 rfl]) (by rw [fx_a hF 116 rfl]))
  exact ⟨this.mono (by omega) (by omega), hS.2.1⟩
theorem DR.gp {v w : iST} {c : Int} (hT : TI v) (g : GP v w c) (h : DR v) : DR w := h.keep hT g.2.1 (fx_s g.2.2.1 122 rfl) (fx_a g.2.2.1 121 rfl) g.w0
theorem DR.fz {v w : iST} (hT : TI v) (hE : ExtT v w) (hF : Fx fZ v w) (h : DR v) : DR w := h.keep hT hE (fx_s hF 122 rfl) (fx_a hF 121 rfl) (fun z => by rw [fx_s hF 61 rfl] at z; exact z)
theorem DR.none (v : iST) : DR (iI v 122 0) := ⟨Int.le_refl _, fun i i0 i1 => by have i1 : i < 0 := i1; omega⟩
theorem Ly.row {u v w : iST} {d e r : Int} (hu : TI u) (h : Ly u v d e) (hF : Fx fW v w) (hL : w.2.2 = v.2.2) (hc : (w.1 61 ≠ 0 ∧ w.1 117 = v.1 117) ∨ (w.1 61 = 0 ∧ v.1 61 = 0 ∧ r = v.1 117 ∧ w.1 117 = v.1 117 + 1)) (hr : ∀ r, 0 ≤ r → r < w.1 117 → Cl w r) : Ly u w d e := by
  have hT := h.1.1.1
  have hS : SP fLy v w 0 0 := SP.sameL h.1 (hF.mono (fun k hk => by simp [fLq, fQ] at hk; simp [fW]; omega)) hL
  have h117 := h.2.2.1
  have := h.step hu hS (by omega) hr
  exact this.mono (by omega) (by omega)
/-- a call of f has N small terms -/
def CallOk (u : iST) (f : Int) (N : Nat) (x : Int) : Prop := 0 ≤ u.2.1 0 x ∧ u.2.1 0 x = f → IsL u (u.2.1 1 x) N ∧ ∀ i, i < N → TJ u (el u (u.2.1 1 x) i)
theorem CallOk.ext {u v : iST} (hT : TI u) (h : ExtT u v) {f x : Int} {N : Nat} (x0 : 0 ≤ x) (x1 : x < u.1 8) (hc : CallOk u f N x) : CallOk v f N x := by
  have e := h.1.2.1 x x0 x1
  intro z
  rw [e.1] at z
  obtain ⟨a, b⟩ := hc z
  rw [e.2.1]
  exact ⟨a.ext hT h.1, fun i hi => by rw [el_ext h.1 a i hi]; exact (b i hi).ext hT h⟩
theorem WJ.ext {u v : iST} (hT : TI u) (h : ExtT u v) {x : Int} (hx : WJ u x) : WJ v x := ⟨hx.1.ext hT h, by rw [h.szw hx.1]; exact hx.2⟩
def EndOk (u : iST) (f : Int) (N : Nat) (x : Int) : Prop := WJ u x ∧ AllT u (CallOk u f N) x
theorem EndOk.ext {u v : iST} (hT : TI u) (h : ExtT u v) {f x : Int} {N : Nat} (hc : EndOk u f N x) : EndOk v f N x := ⟨hc.1.ext hT h, AllT.ext hT h.1 (fun y y0 y1 hy => hy.ext hT h y0 y1) hc.1.1.r.1 hc.1.1.r.2 hc.2⟩
def RulOk (u : iST) (p : Int) : Prop := 0 ≤ u.2.1 125 p ∧ u.2.1 125 p ≤ 39 ∧ (∀ i, 0 ≤ i → i < u.2.1 125 p → TJ u (u.2.1 124 (64 * p + i))) ∧ sumT u (fun i => u.2.1 124 (64 * p + i)) (u.2.1 125 p).toNat ≤ 120
def PathsOk (u : iST) (f : Int) (N : Nat) : Prop := 0 ≤ u.1 126 ∧ u.1 126 ≤ 40 ∧ ∀ p, 0 ≤ p → p < u.1 126 → EndOk u f N (u.2.1 123 p) ∧ RulOk u p
theorem PathsOk.ext {u v : iST} (hT : TI u) (h : ExtT u v) (e6 : v.1 126 = u.1 126) (e3 : v.2.1 123 = u.2.1 123) (e4 : v.2.1 124 = u.2.1 124) (e5 : v.2.1 125 = u.2.1 125) {f : Int} {N : Nat} (hp : PathsOk u f N) : PathsOk v f N := by
  obtain ⟨a, b, c⟩ := hp
  unfold PathsOk RulOk
  rw [e6, e3, e4, e5]
  refine ⟨a, b, fun p p0 p1 => ⟨(c p p0 p1).1.ext hT h, (c p p0 p1).2.1, (c p p0 p1).2.2.1, fun i i0 i1 => ((c p p0 p1).2.2.2.1 i i0 i1).ext hT h, ?_⟩⟩
  rw [sumT_ext h (r := fun i => u.2.1 124 (64 * p + i)) (fun i hi => ⟨((c p p0 p1).2.2.2.1 i (by omega) (by omega)).1, rfl⟩)]
  exact (c p p0 p1).2.2.2.2
