/-! a theorem is taken -/
def Bk (w y : iST) : Prop := Kp w y ∧ y.1 8 = w.1 8 ∧ y.1 6 = w.1 6 ∧ y.1 11 = w.1 11
theorem g_back {w z : iST} {Q : iST → Prop} (hT : TI w) (h57 : w.1 57 = -1) (hz : Kp w z) (hq : ∀ y, Bk w y → Q y) : w_forget (w.1 8) Q z := by
  obtain ⟨z1, z2, z3, z4, z5, z6⟩ := hz
  refine g_forget z1 hT.1 z2.1.1.1 fun y y1 y2 y3 y4 y5 y6 => hq y ?_
  obtain ⟨E1, e6, e11⟩ := z2.1.back hT y1 y3 y2
  have hs : ∀ x, IsW w x → y.2.1 3 x = w.2.1 3 x := fun x hx => by rw [y4 3 (by decide)]; exact z2.2.1 x hx
  have ey : ∀ k, fA k = false → y.1 k = w.1 k := fun k hk => (y6 k (by intro e; rw [e] at hk; cases hk) (by intro e; rw [e] at hk; cases hk) (by intro e; rw [e] at hk; cases hk)).trans (z6 k hk).1
  have eyr : ∀ k, fA k = false → y.2.1 k = w.2.1 k := fun k hk => (y4 k (by intro e; rw [e] at hk; cases hk)).trans (z6 k hk).2
  exact ⟨⟨y1, ExtT.mk0 E1 hs (ey 35 rfl) (eyr 36 rfl) (eyr 37 rfl) h57 (by rw [ey 57 rfl]; exact h57), by rw [y6 69 (by decide) (by decide) (by decide)]; exact z3, by rw [y6 71 (by decide) (by decide) (by decide)]; exact z4, OI_eq z5 (y6 16 (by decide) (by decide) (by decide)) (y6 22 (by decide) (by decide) (by decide)), fun k hk => ⟨ey k hk, eyr k hk⟩⟩, y2, e6, e11⟩
theorem g_addTheorem {w y : iST} {name fo sort : Int} {Q : iST → Prop} (hT : TI w) (hC : Core w) (h42 : w.1 42 < 60) (h54 : 0 ≤ w.1 54) (h54b : w.1 54 < 100) (n0 : 0 ≤ name) (n1 : name < w.1 8) (hf : TJ w fo) (hs : sort ≠ 1) (hy : Bk w y) (hq : ∀ v, CB w v 0 → Q v) : w_addTheorem name fo sort Q y := by
  obtain ⟨⟨y1, y2, y3, y4, y5, y6⟩, y8, ye6, ye11⟩ := hy
  have k0 := hC.2.1.1
  have y42 : y.1 42 = w.1 42 := fx_s y6 42 rfl
  unfold w_addTheorem
  refine rd_i fun _ => ?_
  rw [y42]
  refine bd_i k0 h42 (sw_i (rd_i fun _ => ?_))
  show bd (y.1 42) 60 _
  rw [y42]
  refine bd_i k0 h42 (sw_i (rd_i fun _ => ?_))
  show bd (y.1 42) 60 (sw (iA (iA (iA y 43 (w.1 42) name) 44 (y.1 42) fo) 45 (y.1 42) sort) _)
  rw [y42]
  refine bd_i k0 h42 (sw_i (rd_i fun _ => ?_))
  show w_ruleOf (y.1 42) fo _ (iA (iA (iA y 43 (w.1 42) name) 44 (w.1 42) fo) 45 (w.1 42) sort)
  rw [y42]
  generalize ha : iA (iA (iA y 43 (w.1 42) name) 44 (w.1 42) fo) 45 (w.1 42) sort = a
  have a1 : a.1 = y.1 := by rw [← ha]; rfl
  have a43 : ∀ j, a.2.1 43 j = if j = w.1 42 then name else y.2.1 43 j := fun j => by rw [← ha]; rfl
  have a44 : ∀ j, a.2.1 44 j = if j = w.1 42 then fo else y.2.1 44 j := fun j => by rw [← ha]; rfl
  have ag : ∀ g, g ≠ 43 → g ≠ 44 → g ≠ 45 → a.2.1 g = y.2.1 g := fun g g1 g2 g3 => by rw [← ha]; exact (iA_other g3).trans ((iA_other g2).trans (iA_other g1))
  have aL : a.2.2 = y.2.2 := by rw [← ha]; rfl
  clear ha
  have at' : ∀ k, k ≤ 11 → a.1 k = y.1 k ∧ a.2.1 k = y.2.1 k := fun k hk => ⟨by rw [a1], ag k (by omega) (by omega) (by omega)⟩
  have aT : TI a := TI_eq y1 at' aL
  have aE : ExtT w a := y2.tr hT (ExtT.same at' aL ⟨by rw [a1], ag 36 (by decide) (by decide) (by decide), ag 37 (by decide) (by decide) (by decide), by rw [a1], by rw [a1]⟩)
  refine g_ruleOf aT k0 h42 (hf.ext hT aE) fun b hb => rd_i fun _ => ?_
  obtain ⟨⟨b1, b2, b3, b4, b5, b6, b7⟩, b8⟩ := hb
  have b42 : b.1 42 = w.1 42 := by rw [fx_s b1 42 rfl, a1]; exact y42
  have b54 : b.1 54 = w.1 54 := by rw [fx_s b1 54 rfl, a1]; exact fx_s y6 54 rfl
  have b132 : b.1 132 = w.1 132 := by rw [fx_s b1 132 rfl, a1]; exact fx_s y6 132 rfl
  rw [b42]
  refine ov_i (by omega) (by omega) (sw_i (s_take (u := iI b 42 (w.1 42 + 1)) (show 0 ≤ b.1 54 by omega) (show b.1 54 < 100 by omega) (hq _ ?_)))
  show CB w (iI (iA (iA (iI b 42 (w.1 42 + 1)) 55 (b.1 54) sort) 56 (b.1 54) (b.1 132)) 54 (b.1 54 + 1)) 0
  rw [b54, b132]
  generalize hv : iI (iA (iA (iI b 42 (w.1 42 + 1)) 55 (w.1 54) sort) 56 (w.1 54) (w.1 132)) 54 (w.1 54 + 1) = v
  have v1 : ∀ k, k ≠ 42 → k ≠ 54 → v.1 k = b.1 k := fun k h1 h2 => by rw [← hv]; exact (if_neg h2).trans (if_neg h1)
  have v42 : v.1 42 = w.1 42 + 1 := by rw [← hv]; rfl
  have v54 : v.1 54 = w.1 54 + 1 := by rw [← hv]; rfl
  have vr : ∀ g, g ≠ 55 → g ≠ 56 → v.2.1 g = b.2.1 g := fun g g1 g2 => by rw [← hv]; exact (iA_other g2).trans (iA_other g1)
  have v55 : ∀ j, v.2.1 55 j = if j = w.1 54 then sort else b.2.1 55 j := fun j => by rw [← hv]; rfl
  have v56 : ∀ j, v.2.1 56 j = if j = w.1 54 then w.1 132 else b.2.1 56 j := fun j => by rw [← hv]; rfl
  have vL : v.2.2 = b.2.2 := by rw [← hv]; rfl
  clear hv
  have vt : ∀ k, k ≤ 11 → v.1 k = a.1 k ∧ v.2.1 k = a.2.1 k := fun k hk => ⟨(v1 k (by omega) (by omega)).trans (b1 k (fRu_t k hk)).1, (vr k (by omega) (by omega)).trans (b1 k (fRu_t k hk)).2⟩
  have vL' : v.2.2 = a.2.2 := vL.trans b2
  have vT : TI v := TI_eq aT vt vL'
  have vo1 : ∀ k, fA2 k = false → v.1 k = w.1 k := fun k hk => by
    have hk2 : fA k = false ∧ ¬ (35 ≤ k ∧ k ≤ 49) ∧ ¬ (54 ≤ k ∧ k ≤ 56) := by
      simp only [fA2, Bool.or_eq_false_iff] at hk
      refine ⟨hk.1.1, ?_, ?_⟩
      · have := hk.1.2; simp at this; omega
      · have := hk.2; simp at this; omega
    have hk3 : fRu k = false := by have h1 := hk2.1; simp [fA] at h1; simp [fRu]; omega
    rw [v1 k (by omega) (by omega), (b1 k hk3).1, a1]
    exact (y6 k hk2.1).1
  have sE : ExtT a v := ExtT.same vt vL' ⟨(v1 35 (by decide) (by decide)).trans (fx_s b1 35 rfl), (vr 36 (by decide) (by decide)).trans (fx_a b1 36 rfl), (vr 37 (by decide) (by decide)).trans (fx_a b1 37 rfl), (v1 57 (by decide) (by decide)).trans (fx_s b1 57 rfl), (v1 58 (by decide) (by decide)).trans (fx_s b1 58 rfl)⟩
  have vE : ExtT w v := aE.tr hT sE
  have v8 : v.1 8 = w.1 8 := (vt 8 (by decide)).1.trans (by rw [a1]; exact y8)
  have v35 : v.1 35 = w.1 35 := by rw [v1 35 (by decide) (by decide), fx_s b1 35 rfl, a1]; exact fx_s y6 35 rfl
  have v57 : v.1 57 = -1 := by rw [v1 57 (by decide) (by decide), fx_s b1 57 rfl, a1, fx_s y6 57 rfl]; exact hC.2.2.1
  have same : ∀ g, fRu g = false → fA g = false → g ≠ 43 → g ≠ 44 → g ≠ 45 → g ≠ 55 → g ≠ 56 → v.2.1 g = w.2.1 g := fun g h1 h2 g1 g2 g3 g4 g5 => by rw [vr g g4 g5, (b1 g h1).2, ag g g1 g2 g3]; exact (y6 g h2).2
  have hD : ∀ d, 0 ≤ d → d < w.1 35 → DAg w v d := fun d _ _ => ⟨by rw [same 36 rfl rfl (by decide) (by decide) (by decide) (by decide) (by decide)], by rw [same 37 rfl rfl (by decide) (by decide) (by decide) (by decide) (by decide)], by rw [same 39 rfl rfl (by decide) (by decide) (by decide) (by decide) (by decide)], by rw [same 40 rfl rfl (by decide) (by decide) (by decide) (by decide) (by decide)], by rw [same 41 rfl rfl (by decide) (by decide) (by decide) (by decide) (by decide)], fun k _ _ => by rw [same 38 rfl rfl (by decide) (by decide) (by decide) (by decide) (by decide)]⟩
  have v43 : ∀ j, v.2.1 43 j = if j = w.1 42 then name else w.2.1 43 j := fun j => by rw [vr 43 (by decide) (by decide), fx_a b1 43 rfl, a43, fx_a y6 43 rfl]
  have v44 : ∀ j, v.2.1 44 j = if j = w.1 42 then fo else w.2.1 44 j := fun j => by rw [vr 44 (by decide) (by decide), fx_a b1 44 rfl, a44, fx_a y6 44 rfl]
  have c6 : ∀ g, g = 46 ∨ g = 47 ∨ g = 48 ∨ g = 49 → a.2.1 g = w.2.1 g := fun g hg => by
    rw [ag g (by omega) (by omega) (by omega)]
    exact (y6 g (by rcases hg with rfl | rfl | rfl | rfl <;> rfl)).2
  have hTt : ∀ k, 0 ≤ k → k < w.1 42 → TAg w v k := fun k q0 q1 => by
    obtain ⟨r1, r2, r3⟩ := b3 k (by omega)
    refine ⟨by rw [v43, if_neg (by omega)], by rw [v44, if_neg (by omega)], ?_, ?_, ?_, fun i i0 i1 => ?_⟩
    · rw [vr 46 (by decide) (by decide), r1, c6 46 (Or.inl rfl)]
    · rw [vr 47 (by decide) (by decide), r2, c6 47 (Or.inr (Or.inl rfl))]
    · rw [vr 48 (by decide) (by decide), r3, c6 48 (Or.inr (Or.inr (Or.inl rfl)))]
    · rw [vr 49 (by decide) (by decide), b4 _ (by omega), c6 49 (Or.inr (Or.inr (Or.inr rfl)))]
  have Eb : ExtT b v := by
    have bt : ∀ k, k ≤ 11 → v.1 k = b.1 k ∧ v.2.1 k = b.2.1 k := fun k hk => ⟨v1 k (by omega) (by omega), vr k (by omega) (by omega)⟩
    exact ExtT.same bt vL ⟨v1 35 (by decide) (by decide), vr 36 (by decide) (by decide), vr 37 (by decide) (by decide), v1 57 (by decide) (by decide), v1 58 (by decide) (by decide)⟩
  have bT : TI b := TI_eq aT (fun k hk => b1 k (fRu_t k hk)) b2
  have Cv : Core v := by
    refine ⟨by rw [v35]; exact hC.1, ⟨by omega, by omega⟩, v57, fun d d0 d1 => (hC.2.2.2.1 d d0 (by omega)).ext hT vE (hD d d0 (by omega)), fun k q0 q1 => ?_⟩
    by_cases ek : k = w.1 42
    · subst ek
      unfold Tx
      rw [v43, if_pos rfl, v44, if_pos rfl, v8, vr 46 (by decide) (by decide)]
      refine ⟨b8.imp id (fun z => ?_), hf.ext hT vE, n0, n1⟩
      obtain ⟨z1, z2, z3, z4, z5, z6⟩ := z
      unfold RuleOk
      rw [vr 46 (by decide) (by decide), vr 47 (by decide) (by decide), vr 48 (by decide) (by decide), vr 49 (by decide) (by decide), vr 0 (by decide) (by decide)]
      exact ⟨z1.ext bT Eb, z2, z3.ext bT Eb, z4, z5, fun i i0 i1 => (z6 i i0 i1).ext bT Eb⟩
    · exact (hC.2.2.2.2 k q0 (by omega)).ext hT vE (hTt k q0 (by omega))
  have n16 : v.1 16 = y.1 16 := by rw [v1 16 (by decide) (by decide), fx_s b1 16 rfl, a1]
  have n22 : v.1 22 = y.1 22 := by rw [v1 22 (by decide) (by decide), fx_s b1 22 rfl, a1]
  have n69 : v.1 69 = y.1 69 := by rw [v1 69 (by decide) (by decide), fx_s b1 69 rfl, a1]
  have n71 : v.1 71 = y.1 71 := by rw [v1 71 (by decide) (by decide), fx_s b1 71 rfl, a1]
  refine ⟨vT, vE, by rw [n69]; exact y3, by rw [n71]; exact y4, OI_eq y5 n16 n22, Cv, fun k hk => ⟨vo1 k hk, ?_⟩, by omega, ?_, ?_, v54, fun j hj => ⟨?_, ?_⟩, by rw [v56, if_pos rfl], Or.inr ⟨by rw [v55, if_pos rfl]; exact hs, v35, v42⟩, hD, hTt⟩
  · have hk2 : fA k = false ∧ ¬ (35 ≤ k ∧ k ≤ 49) ∧ ¬ (54 ≤ k ∧ k ≤ 56) := by
      simp only [fA2, Bool.or_eq_false_iff] at hk
      refine ⟨hk.1.1, ?_, ?_⟩
      · have := hk.1.2; simp at this; omega
      · have := hk.2; simp at this; omega
    have hk3 : fRu k = false := by have h1 := hk2.1; simp [fA] at h1; simp [fRu]; omega
    exact same k hk3 hk2.1 (by omega) (by omega) (by omega) (by omega) (by omega)
  · rw [(vt 6 (by decide)).1, a1, ye6]; exact Int.le_refl _
  · rw [(vt 11 (by decide)).1, a1, ye11]; exact Int.le_refl _
  · rw [v55, if_neg hj, fx_a b1 55 rfl, ag 55 (by decide) (by decide) (by decide)]; exact congrFun (fx_a y6 55 rfl) j
  · rw [v56, if_neg hj, fx_a b1 56 rfl, ag 56 (by decide) (by decide) (by decide)]; exact congrFun (fx_a y6 56 rfl) j
