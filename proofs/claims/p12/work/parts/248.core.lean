/-! what is taken: definitions and theorems -/
def Dx (u : iST) (d : Int) : Prop := (0 ≤ u.2.1 37 d ∧ u.2.1 37 d ≤ 6 ∧ 16 < u.2.1 36 d ∧ u.2.1 36 d < u.1 8 ∧ u.2.1 0 (u.2.1 36 d) = -2) ∧ (TV u (Par u d) (u.2.1 39 d) ∧ sz u (u.2.1 39 d) ≤ 120) ∧ (∀ k, 0 ≤ k → k < u.2.1 37 d → u.2.1 0 (u.2.1 38 (6 * d + k)) = -2 ∧ 0 ≤ u.2.1 38 (6 * d + k) ∧ u.2.1 38 (6 * d + k) < u.1 8) ∧ (u.2.1 41 d ≠ 0 → 0 ≤ u.2.1 40 d ∧ u.2.1 40 d < u.1 8) ∧ (u.2.1 41 d ≠ 0 → AllT u (Arg1 u (u.2.1 36 d)) (u.2.1 39 d))
def Tx (u : iST) (k : Int) : Prop := (u.2.1 46 k = -1 ∨ RuleOk u k) ∧ TJ u (u.2.1 44 k) ∧ 0 ≤ u.2.1 43 k ∧ u.2.1 43 k < u.1 8
def Core (u : iST) : Prop := (0 ≤ u.1 35 ∧ u.1 35 ≤ 40) ∧ (0 ≤ u.1 42 ∧ u.1 42 ≤ 60) ∧ u.1 57 = -1 ∧ (∀ d, 0 ≤ d → d < u.1 35 → Dx u d) ∧ ∀ k, 0 ≤ k → k < u.1 42 → Tx u k
def DAg (u v : iST) (d : Int) : Prop := v.2.1 36 d = u.2.1 36 d ∧ v.2.1 37 d = u.2.1 37 d ∧ v.2.1 39 d = u.2.1 39 d ∧ v.2.1 40 d = u.2.1 40 d ∧ v.2.1 41 d = u.2.1 41 d ∧ ∀ k, 0 ≤ k → k < 6 → v.2.1 38 (6 * d + k) = u.2.1 38 (6 * d + k)
def TAg (u v : iST) (k : Int) : Prop := v.2.1 43 k = u.2.1 43 k ∧ v.2.1 44 k = u.2.1 44 k ∧ v.2.1 46 k = u.2.1 46 k ∧ v.2.1 47 k = u.2.1 47 k ∧ v.2.1 48 k = u.2.1 48 k ∧ ∀ i, 0 ≤ i → i < 120 → v.2.1 49 (120 * k + i) = u.2.1 49 (120 * k + i)
theorem NoF.ext {u v : iST} (hT : TI u) (hE : Ext u v) {f o : Int} (o0 : 0 ≤ o) (o1 : o < u.1 8) (h : NoF u f o) : NoF v f o := AllT.ext hT hE (fun x x0 x1 hx => by rw [(hE.2.1 x x0 x1).1]; exact hx) o0 o1 h
theorem AllT.down {u v : iST} (hT : TI u) (hE : Ext u v) {S S' : Int → Prop} (hS : ∀ x, 0 ≤ x → x < u.1 8 → S x → S' x) {o : Int} (o0 : 0 ≤ o) (o1 : o < u.1 8) (h : AllT v S o) : AllT u S' o := by
  refine ⟨fun x => 0 ≤ x ∧ x < u.1 8 ∧ AllT v S x, fun x hx => ?_, ⟨o0, o1, h⟩⟩
  obtain ⟨x0, x1, hx⟩ := hx
  obtain ⟨a, b⟩ := hx.step
  have ex := hE.2.1 x x0 x1
  refine ⟨hS x x0 x1 a, fun z => ?_⟩
  have p := hT.pair x0 x1 z.1
  obtain ⟨n, c, d⟩ := b (by rw [ex.1]; exact z)
  rw [ex.2.1] at c d
  have c' := c.down hT hE p.2.1 (by omega)
  refine ⟨n, c', AllE_of fun i hi => ?_⟩
  have r := IsL.elr hT c' i hi
  have := d.el i hi
  rw [el_ext hE c' i hi] at this
  exact ⟨r.1, r.2, this⟩
theorem NoF.down {u v : iST} (hT : TI u) (hE : Ext u v) {f o : Int} (o0 : 0 ≤ o) (o1 : o < u.1 8) (h : NoF v f o) : NoF u f o := AllT.down hT hE (fun x x0 x1 hx => by rw [(hE.2.1 x x0 x1).1] at hx; exact hx) o0 o1 h
theorem Arg1.ext {u v : iST} (hT : TI u) (hE : Ext u v) {f x : Int} (x0 : 0 ≤ x) (x1 : x < u.1 8) (h : Arg1 u f x) : Arg1 v f x := by
  have ex := hE.2.1 x x0 x1
  intro hc n i hl hi
  rw [ex.1] at hc
  have p := hT.pair x0 x1 hc.1
  rw [ex.2.1] at hl ⊢
  have hl' := hl.down hT hE p.2.1 (by omega)
  have r := IsL.elr hT hl' i hi
  rw [el_ext hE hl' i hi]
  exact (h hc n i hl' hi).ext hT hE r.1 r.2
theorem Arg1.down {u v : iST} (hT : TI u) (hE : Ext u v) {f x : Int} (x0 : 0 ≤ x) (x1 : x < u.1 8) (h : Arg1 v f x) : Arg1 u f x := by
  have ex := hE.2.1 x x0 x1
  intro hc n i hl hi
  have r := IsL.elr hT hl i hi
  have := h (by rw [ex.1]; exact hc) n i (by rw [ex.2.1]; exact hl.ext hT hE) hi
  rw [ex.2.1, el_ext hE hl i hi] at this
  exact this.down hT hE r.1 r.2
theorem Dx.ext {u v : iST} (hT : TI u) (hE : ExtT u v) {d : Int} (hA : DAg u v d) (h : Dx u d) : Dx v d := by
  obtain ⟨⟨a1, a2, a3, a4, a5⟩, ⟨⟨b1, b2⟩, b3⟩, c, e, ap⟩ := h
  obtain ⟨g1, g2, g3, g4, g5, g6⟩ := hA
  have h8 := hE.1.1.1
  have br := b1.r
  unfold Dx TV
  rw [g1, g2, g3, g4, g5]
  refine ⟨⟨a1, a2, a3, by omega, by rw [(hE.1.2.1 _ (by omega) a4).1]; exact a5⟩, ⟨⟨b1.ext hT hE, AllT.ext hT hE.1 (fun x x0 x1 hx => ?_) br.1 br.2 b2⟩, by rw [hE.szx b1]; exact b3⟩, fun k k0 k1 => ?_, fun z => ?_, fun z => AllT.ext hT hE.1 (fun x x0 x1 hx => hx.ext hT hE.1 x0 x1) br.1 br.2 (ap z)⟩
  · intro hz
    rw [(hE.1.2.1 x x0 x1).1] at hz
    obtain ⟨k, k0, k1, k2⟩ := hx hz
    exact ⟨k, k0, by rw [g2]; exact k1, by rw [g6 k k0 (by omega)]; exact k2⟩
  · rw [g6 k k0 (by omega)]
    obtain ⟨c1, c2, c3⟩ := c k k0 k1
    exact ⟨by rw [(hE.1.2.1 _ c2 c3).1]; exact c1, c2, by omega⟩
  · have := e z
    omega
theorem Tx.ext {u v : iST} (hT : TI u) (hE : ExtT u v) {k : Int} (hA : TAg u v k) (h : Tx u k) : Tx v k := by
  obtain ⟨a, b, c, d⟩ := h
  obtain ⟨g1, g2, g3, g4, g5, g6⟩ := hA
  have h8 := hE.1.1.1
  unfold Tx
  rw [g1, g2, g3]
  refine ⟨a.imp id (fun z => ?_), b.ext hT hE, c, by omega⟩
  obtain ⟨a1, a2, a3, a4, a5, a6⟩ := z
  have e := hE.1.2.1 _ a1.1.r.1 a1.1.r.2
  unfold RuleOk
  rw [g3, g4, g5, e.1]
  exact ⟨a1.ext hT hE, a2, a3.ext hT hE, a4, a5, fun i i0 i1 => by rw [g6 i i0 (by omega)]; exact (a6 i i0 i1).ext hT hE⟩
theorem Core.ext {u v : iST} (hT : TI u) (hE : ExtT u v) (h35 : v.1 35 = u.1 35) (h42 : v.1 42 = u.1 42) (h57 : v.1 57 = -1) (hd : ∀ d, 0 ≤ d → d < u.1 35 → DAg u v d) (ht : ∀ k, 0 ≤ k → k < u.1 42 → TAg u v k) (h : Core u) : Core v := by
  obtain ⟨a, b, c, d, e⟩ := h
  unfold Core
  rw [h35, h42]
  exact ⟨a, b, h57, fun i i0 i1 => (d i i0 i1).ext hT hE (hd i i0 i1), fun i i0 i1 => (e i i0 i1).ext hT hE (ht i i0 i1)⟩
theorem Core.di {u : iST} (h : Core u) : DI u := ⟨h.1.1, h.1.2, fun d d0 d1 => (h.2.2.2.1 d d0 d1).1, fun z => absurd h.2.2.1 z⟩
theorem Core.db {u : iST} (h : Core u) : DB u := fun d d0 d1 => (h.2.2.2.1 d d0 d1).2.1
theorem Core.ru {u : iST} (h : Core u) : RU u := ⟨h.2.1.1, h.2.1.2, fun r r0 r1 => (h.2.2.2.2 r r0 r1).1⟩
theorem WI.mk {u : iST} (hT : TI u) (hC : Core u) (h69 : u.1 69 = 0) (h71 : u.1 71 = 0) (hO : OI u) (h60 : 0 ≤ u.1 60) (h59 : u.1 60 ≤ u.1 59) (hf : u.1 59 ≤ 1000) : WI u := ⟨⟨hT, hC.di, h69, h71⟩, hC.db, hC.ru, hO, hC.2.2.1, h60, h59, hf⟩
/-- the fields that a command may change, but where it takes something -/
def fA (k : Nat) : Bool := !((decide (12 ≤ k) && decide (k ≤ 14)) || (decide (23 ≤ k) && decide (k ≤ 49)) || (decide (54 ≤ k) && decide (k ≤ 57)) || decide (k = 59) || decide (k = 132))
theorem fLy_A : ∀ k, fA k = false → fLy k = false := fun k hk => by simp [fA] at hk; simp [fLy, fC, fJ, fM]; omega
theorem fM_A : ∀ k, fA k = false → fM k = false := fun k hk => fM_L k (fLy_A k hk)
def Kp (u v : iST) : Prop := TI v ∧ ExtT u v ∧ v.1 69 = 0 ∧ v.1 71 = 0 ∧ OI v ∧ Fx fA u v
theorem Kp.core {u v : iST} (hT : TI u) (h : Kp u v) (hC : Core u) : Core v := by
  obtain ⟨a1, a2, a3, a4, a5, a6⟩ := h
  exact hC.ext hT a2 (fx_s a6 35 rfl) (fx_s a6 42 rfl) (by rw [fx_s a6 57 rfl]; exact hC.2.2.1) (fun d _ _ => ⟨by rw [fx_a a6 36 rfl], by rw [fx_a a6 37 rfl], by rw [fx_a a6 39 rfl], by rw [fx_a a6 40 rfl], by rw [fx_a a6 41 rfl], fun k _ _ => by rw [fx_a a6 38 rfl]⟩) (fun k _ _ => ⟨by rw [fx_a a6 43 rfl], by rw [fx_a a6 44 rfl], by rw [fx_a a6 46 rfl], by rw [fx_a a6 47 rfl], by rw [fx_a a6 48 rfl], fun i _ _ => by rw [fx_a a6 49 rfl]⟩)
theorem Kp.rf {u : iST} (hW : WI u) : Kp u u := ⟨hW.1.1, ExtT.rf u, hW.1.2.2.1, hW.1.2.2.2, hW.2.2.2.1, Fx.rf _ u⟩
theorem Kp.tr {u v w : iST} (hT : TI u) (h : Kp u v) (g : Kp v w) : Kp u w := ⟨g.1, h.2.1.tr hT g.2.1, g.2.2.1, g.2.2.2.1, g.2.2.2.2.1, h.2.2.2.2.2.tr g.2.2.2.2.2⟩
theorem SP.kp {u v : iST} {d e : Int} (h : SP fLy u v d e) : Kp u v := ⟨h.1, h.2.1, h.2.2.2.1, h.2.2.2.2.1, h.2.2.2.2.2.2.2.2.2.2, h.2.2.1.mono fLy_A⟩
/-- something was taken: at most c objects more -/
def fA2 (k : Nat) : Bool := fA k || (decide (35 ≤ k) && decide (k ≤ 49)) || (decide (54 ≤ k) && decide (k ≤ 56))
def CB (u v : iST) (c : Int) : Prop := TI v ∧ ExtT u v ∧ v.1 69 = 0 ∧ v.1 71 = 0 ∧ OI v ∧ Core v ∧ Fx fA2 u v ∧ v.1 8 ≤ u.1 8 + c ∧ v.1 6 ≤ u.1 6 ∧ v.1 11 ≤ u.1 11 ∧ v.1 54 = u.1 54 + 1 ∧ (∀ j, j ≠ u.1 54 → v.2.1 55 j = u.2.1 55 j ∧ v.2.1 56 j = u.2.1 56 j) ∧ v.2.1 56 (u.1 54) = u.1 132 ∧ ((v.2.1 55 (u.1 54) = 1 ∧ v.1 35 = u.1 35 + 1 ∧ v.1 42 = u.1 42) ∨ (v.2.1 55 (u.1 54) ≠ 1 ∧ v.1 35 = u.1 35 ∧ v.1 42 = u.1 42 + 1)) ∧ (∀ d, 0 ≤ d → d < u.1 35 → DAg u v d) ∧ ∀ k, 0 ≤ k → k < u.1 42 → TAg u v k
theorem DAg.fx {u v : iST} {f : Nat → Bool} (hF : Fx f u v) (h1 : f 36 = false) (h2 : f 37 = false) (h3 : f 38 = false) (h4 : f 39 = false) (h5 : f 40 = false) (h6 : f 41 = false) (d : Int) : DAg u v d := ⟨by rw [fx_a hF 36 h1], by rw [fx_a hF 37 h2], by rw [fx_a hF 39 h4], by rw [fx_a hF 40 h5], by rw [fx_a hF 41 h6], fun k _ _ => by rw [fx_a hF 38 h3]⟩
theorem TAg.fx {u v : iST} {f : Nat → Bool} (hF : Fx f u v) (h1 : f 43 = false) (h2 : f 44 = false) (h3 : f 46 = false) (h4 : f 47 = false) (h5 : f 48 = false) (h6 : f 49 = false) (k : Int) : TAg u v k := ⟨by rw [fx_a hF 43 h1], by rw [fx_a hF 44 h2], by rw [fx_a hF 46 h3], by rw [fx_a hF 47 h4], by rw [fx_a hF 48 h5], fun i _ _ => by rw [fx_a hF 49 h6]⟩
/-- what was kept before stays under what is taken -/
theorem Kp.cb {u v w : iST} {c d : Int} (hT : TI u) (h : Kp u v) (h8 : v.1 8 ≤ u.1 8 + d) (h6 : v.1 6 ≤ u.1 6) (h11 : v.1 11 ≤ u.1 11) (g : CB v w c) : CB u w (d + c) := by
  obtain ⟨a1, a2, a3, a4, a5, a6⟩ := h
  obtain ⟨b1, b2, b3, b4, b5, b6, b7, b8, b9, b10, b11, b12, b13, b14, b15, b16⟩ := g
  have e54 := fx_s a6 54 rfl
  have e35 := fx_s a6 35 rfl
  have e42 := fx_s a6 42 rfl
  have e132 := fx_s a6 132 rfl
  rw [e54] at b11 b12 b13 b14
  rw [e35] at b14 b15
  rw [e42] at b14 b16
  rw [e132] at b13
  have tD : ∀ d, DAg u v d := fun d => DAg.fx a6 rfl rfl rfl rfl rfl rfl d
  have tT : ∀ k, TAg u v k := fun k => TAg.fx a6 rfl rfl rfl rfl rfl rfl k
  refine ⟨b1, a2.tr hT b2, b3, b4, b5, b6, (a6.mono (fun k hk => by simp only [fA2, Bool.or_eq_false_iff] at hk; exact hk.1.1)).tr b7, by omega, by omega, by omega, b11, fun j hj => ?_, b13, b14, fun d d0 d1 => ?_, fun k k0 k1 => ?_⟩
  · rw [← fx_a a6 55 rfl, ← fx_a a6 56 rfl]; exact b12 j hj
  · obtain ⟨x1, x2, x3, x4, x5, x6⟩ := tD d
    obtain ⟨y1, y2, y3, y4, y5, y6⟩ := b15 d d0 d1
    exact ⟨y1.trans x1, y2.trans x2, y3.trans x3, y4.trans x4, y5.trans x5, fun k k0 k1 => (y6 k k0 k1).trans (x6 k k0 k1)⟩
  · obtain ⟨x1, x2, x3, x4, x5, x6⟩ := tT k
    obtain ⟨y1, y2, y3, y4, y5, y6⟩ := b16 k k0 k1
    exact ⟨y1.trans x1, y2.trans x2, y3.trans x3, y4.trans x4, y5.trans x5, fun i i0 i1 => (y6 i i0 i1).trans (x6 i i0 i1)⟩
/-- the rest of a list -/
def dr (u : iST) (o : Int) : Nat → Int
  | 0 => o
  | i + 1 => dr u (u.2.1 1 o) i
theorem dr_isL {u : iST} : ∀ {i n : Nat} {o : Int}, IsL u o n → i ≤ n → IsL u (dr u o i) (n - i)
  | 0, n, o, h, _ => h
  | i + 1, 0, o, h, hi => by omega
  | i + 1, n + 1, o, h, hi => by
    have := dr_isL (i := i) (n := n) (o := u.2.1 1 o) h.2.2.2 (by omega)
    rw [show n + 1 - (i + 1) = n - i from by omega]
    exact this
theorem dr_el {u : iST} : ∀ (i : Nat) (o : Int), el u o i = u.2.1 0 (dr u o i)
  | 0, _ => rfl
  | i + 1, o => dr_el i (u.2.1 1 o)
theorem dr_next {u : iST} : ∀ (i : Nat) (o : Int), dr u o (i + 1) = u.2.1 1 (dr u o i)
  | 0, _ => rfl
  | i + 1, o => dr_next i (u.2.1 1 o)
theorem wB_dr {u : iST} (hT : TI u) {i n : Nat} {o : Int} (h : IsL u o n) (hi : i < n) : wB u (dr u o i) = wA u (el u o i) + wB u (dr u o (i + 1)) := by
  have hl := dr_isL (i := i) h (by omega)
  rw [show n - i = (n - i - 1) + 1 from by omega] at hl
  rw [wB_pair hT hl.1 hl.2.1 hl.2.2.1, dr_el, dr_next]
theorem wB_drp {u : iST} (hT : TI u) {i n : Nat} {o : Int} (h : IsL u o n) (hi : i ≤ n) : 0 ≤ wB u (dr u o i) := by
  have hl := dr_isL (i := i) h hi
  have r := hl.r (by have := hT.1; omega)
  exact (w_pos hT r.1 r.2).2.1
