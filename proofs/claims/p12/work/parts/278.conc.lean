/-! what a rule concludes -/
theorem t_le {u : iST} (hT : TI u) {x : Int} (x0 : 0 ≤ x) (x1 : x < u.1 8) : (tS u x < 10000000 → tS u x ≤ wA u x) ∧ (tL u x < 10000000 → tL u x ≤ wB u x) := by
  refine w_ind hT (fun x => x < u.1 8 → (tS u x < 10000000 → tS u x ≤ wA u x) ∧ (tL u x < 10000000 → tL u x ≤ wB u x)) (fun x x0 x1 ih _ => ?_) x0 x1 x1
  have wp := w_pos hT x0 x1
  by_cases h : u.2.1 0 x < 0
  · rw [tS_atom x0 h, tL_nil x0 h]; omega
  · have h0 : 0 ≤ u.2.1 0 x := by omega
    have p := hT.pair x0 x1 h0
    have i1 := ih _ h0 p.1 (by omega)
    have i2 := ih _ p.2.1 p.2.2 (by omega)
    have t1 := t_pos hT h0 (show u.2.1 0 x < u.1 8 by omega)
    have t2 := t_pos hT p.2.1 (show u.2.1 1 x < u.1 8 by omega)
    have w1 := w_pos hT h0 (show u.2.1 0 x < u.1 8 by omega)
    have eb := wB_pair hT x0 x1 h0
    refine ⟨fun z => ?_, fun z => ?_⟩
    · by_cases hq : Quo u x
      · rw [tS_quo x0 hq]; omega
      · by_cases hf : Fits u x
        · rw [tS_call hT x0 x1 h0 hf] at z ⊢
          have ea := wA_pair x0 h0 hq
          have hb : tL u (u.2.1 1 x) < 10000000 := by
            by_cases q : 10000000 ≤ tL u (u.2.1 1 x)
            · rw [(capT_r _ t2.2).2 q] at z; omega
            · omega
          have i3 := i2.2 hb
          unfold capT capS
          rw [if_neg (by omega)]
          split <;> omega
        · rw [tS_bad x0 h0 hq hf] at z; omega
    · rw [tL_pair hT x0 x1 h0] at z ⊢
      have i3 := i1.1 (by omega)
      have i4 := i2.2 (by omega)
      omega
theorem parts0 {r : Int} (n : Nat) (h0 : 28 ≤ r) (h1 : r ≤ 38) : pFr r = 0 ∧ pTo r n = 0 := by
  unfold pFr pTo
  rw [if_neg (by omega), if_neg (by omega), if_neg (by omega), if_neg (by omega), if_neg (by omega), if_neg (by omega), if_neg (by omega), if_neg (by omega)]
  exact ⟨rfl, rfl⟩
theorem FormR.n {u : iST} {o : Int} {n : Nat} (h : FormR u o n) : 2 ≤ n ∧ (u.2.1 0 o = 39 → n = 3) ∧ (u.2.1 0 o = 40 → n = 4) ∧ (u.2.1 0 o = 42 → n = 2) ∧ (u.2.1 0 o = 43 → n = 3) ∧ (u.2.1 0 o = 27 → 3 ≤ n) ∧ (32 ≤ u.2.1 0 o → u.2.1 0 o ≤ 36 → 3 ≤ n) ∧ (u.2.1 0 o = 35 ∨ u.2.1 0 o = 36 → n = 4) := by
  unfold FormR at h
  rcases h with ⟨a, b, _⟩ | ⟨a, b, _⟩ | ⟨a, b, _⟩ | ⟨a, b, _⟩ | ⟨a, b, _⟩ | ⟨a, b, _⟩ | ⟨a, b, _⟩ | ⟨a, b, _⟩ | ⟨a, b, _⟩ | ⟨a, b⟩ | ⟨a, b⟩ | ⟨a, b, _⟩ <;> omega
theorem FormR.told {u : iST} {o : Int} {n : Nat} (h : FormR u o n) (hr : u.2.1 0 o = 31) : ToldX u (el u o 1) := by
  unfold FormR at h
  rcases h with h | h | h | h | h | h | h | h | h | h | h | h
  all_goals first | exact h.2.2.2 | (exfalso; have := h.1; omega)
theorem FormR.def {u : iST} {o : Int} {n : Nat} (h : FormR u o n) (hr : u.2.1 0 o = 37) : ∃ d, 0 ≤ d ∧ d < u.1 35 ∧ u.2.1 36 d = el u o 1 := by
  unfold FormR at h
  rcases h with h | h | h | h | h | h | h | h | h | h | h | h
  all_goals first | exact h.2.2 | (exfalso; have := h.1; omega)
theorem FormR.thm {u : iST} {o : Int} {n : Nat} (h : FormR u o n) (hr : u.2.1 0 o = 38) : ∃ k, 0 ≤ k ∧ k < u.1 42 ∧ u.2.1 43 k = el u o 1 := by
  unfold FormR at h
  rcases h with h | h | h | h | h | h | h | h | h | h | h | h
  all_goals first | exact h.2.2 | (exfalso; have := h.1; omega)
theorem FormR.weak {u : iST} {o : Int} {n : Nat} (h : FormR u o n) (hr : u.2.1 0 o = 39) : ∃ m : Nat, IsL u (el u o 1) m ∧ ∀ i, i < m → TO u (el u (el u o 1) i) := by
  unfold FormR at h
  rcases h with h | h | h | h | h | h | h | h | h | h | h | h
  all_goals first | exact h.2.2 | (exfalso; have := h.1; omega)
theorem FormR.inst {u : iST} {o : Int} {n : Nat} (h : FormR u o n) (hr : u.2.1 0 o = 41) : ∃ m : Nat, PairsOk u (dr u o 2) m := by
  unfold FormR at h
  rcases h with h | h | h | h | h | h | h | h | h | h | h | h
  all_goals first | exact h.2.2 | (exfalso; have := h.1; omega)
theorem FormR.ind {u : iST} {o : Int} {n : Nat} (h : FormR u o n) (hr : u.2.1 0 o < 29) : u.2.1 0 o = 27 ∧ IndF u o n := by
  unfold FormR at h
  rcases h with h | h | h | h | h | h | h | h | h | h | h | h
  all_goals first | exact ⟨h.1, h.2.2⟩ | (exfalso; have := h.1; omega)
theorem FormR.t1 {u : iST} {o : Int} {n : Nat} (h : FormR u o n) (hr : u.2.1 0 o ≤ 36 ∨ u.2.1 0 o = 40) : TO u (el u o 1) := by
  unfold FormR at h
  rcases h with h | h | h | h | h | h | h | h | h | h | h | h
  all_goals first | exact h.2.2 | exact h.2.2.1 | (exfalso; have := h.1; omega)
theorem FormR.t2 {u : iST} {o : Int} {n : Nat} (h : FormR u o n) (hr : 32 ≤ u.2.1 0 o) (hr2 : u.2.1 0 o ≤ 36) : TO u (el u o 2) := by
  unfold FormR at h
  rcases h with h | h | h | h | h | h | h | h | h | h | h | h
  all_goals first | exact h.2.2.2 | exact h.2.2.2.1 | (exfalso; have := h.1; omega)
theorem FormR.t3 {u : iST} {o : Int} {n : Nat} (h : FormR u o n) (hr : u.2.1 0 o = 35 ∨ u.2.1 0 o = 36) : TO u (el u o 3) := by
  unfold FormR at h
  rcases h with h | h | h | h | h | h | h | h | h | h | h | h
  all_goals first | exact h.2.2.2.2 | (exfalso; have := h.1; omega)
theorem own_ge {u : iST} (hT : TI u) {o : Int} {n : Nat} (hx : FormOk u o n) : 3 ≤ owW u o n ∧ (29 ≤ u.2.1 0 o → u.2.1 0 o ≤ 38 → owW u o n = 3 + wB u (dr u o 1)) ∧ (u.2.1 0 o = 39 ∨ u.2.1 0 o = 40 → owW u o n = 3 + wA u (el u o 1)) ∧ (u.2.1 0 o = 41 → owW u o n = 3 + wB u (dr u o 2)) ∧ (u.2.1 0 o = 27 → 4 + wA u (el u o 1) ≤ owW u o n) := by
  have hr := hx.r
  have hn := hx.2.2.n
  have hp := hx.parts
  obtain ⟨h1, hl, h3⟩ := hx
  obtain ⟨n', rfl⟩ : ∃ n', n = n' + 1 := ⟨n - 1, by omega⟩
  have w := w_rule hT hl (by omega) (by omega)
  have own : ∀ (k f : Nat), pFr (u.2.1 0 o) = f → pTo (u.2.1 0 o) (n' + 1) = k → owW u o (n' + 1) = wA u o - (wB u (dr u o f) - wB u (dr u o k)) := fun k f h1 h2 => by
    unfold owW rmW; rw [h1, h2]
  have w1 : wB u (dr u o 1) = wA u (el u o 1) + wB u (dr u o 2) := wB_dr hT hl (i := 1) (by omega)
  have r1 := IsL.elr hT hl 1 (by omega)
  have q1 := w_pos hT r1.1 r1.2
  have q2 := wB_drp hT hl (i := 2) (by omega)
  have q3 := wB_drp hT hl (i := 1) (by omega)
  have end0 : wB u (dr u o (n' + 1)) = 0 := by
    rw [(dr_nz hT hl (by omega)).mpr rfl]; exact wB_nil hT
  by_cases a : 28 ≤ u.2.1 0 o ∧ u.2.1 0 o ≤ 38
  · have p := parts0 (n' + 1) a.1 a.2
    have := own 0 0 p.1 p.2
    omega
  by_cases b : u.2.1 0 o = 39
  · have e : n' = 2 := by omega
    subst e
    have := own 3 2 (by unfold pFr; rw [b]; decide) (by unfold pTo; rw [b]; rfl)
    rw [show wB u (dr u o 3) = 0 from end0] at this
    omega
  by_cases b : u.2.1 0 o = 40
  · have e : n' = 3 := by omega
    subst e
    have := own 4 2 (by unfold pFr; rw [b]; decide) (by unfold pTo; rw [b]; rfl)
    rw [show wB u (dr u o 4) = 0 from end0] at this
    omega
  by_cases b : u.2.1 0 o = 41
  · have := own 2 1 (by unfold pFr; rw [b]; decide) (by unfold pTo; rw [b]; rfl)
    omega
  by_cases b : u.2.1 0 o = 42
  · have := own 2 1 (by unfold pFr; rw [b]; decide) (by unfold pTo; rw [b]; rfl)
    omega
  by_cases b : u.2.1 0 o = 43
  · have e : n' = 2 := by omega
    subst e
    have := own 3 1 (by unfold pFr; rw [b]; decide) (by unfold pTo; rw [b]; rfl)
    rw [show wB u (dr u o 3) = 0 from end0] at this
    omega
  have b : u.2.1 0 o = 27 := by omega
  have e1 : pTo (u.2.1 0 o) (n' + 1) = n' + 1 := by unfold pTo; rw [b]; rfl
  have := own (n' + 1) 3 (by unfold pFr; rw [b]; decide) e1
  rw [end0] at this
  have w2 : wB u (dr u o 2) = wA u (el u o 2) + wB u (dr u o 3) := wB_dr hT hl (i := 2) (by omega)
  have r2 := IsL.elr hT hl 2 (by omega)
  have q4 := w_pos hT r2.1 r2.2
  omega
/-- what a rule may cost -/
def CC (u : iST) (o : Int) (n : Nat) : Int := 398 * owW u o n - 279 - (if u.2.1 0 o = 27 then 600 else 0) + 279 * ((pTo (u.2.1 0 o) n : Int) - pFr (u.2.1 0 o))
theorem g_termCD {u a : iST} {c e k x : Int} {Q : Int → iST → Prop} (hu : TI u) (h : CD u a c e k) (x0 : 0 ≤ x) (x1 : x < u.1 8) (hx : TO u x) (hw : wA u x ≤ 1000) (h8 : u.1 8 + c + wA u x < 451900) (hq : ∀ t y, CD u y (c + wA u x - 1) e k → ExtT a y → TJ y t → sz y t = tS u x → T2 y x t → Q t y) : w_termOf x Q a := by
  have aT := h.1.1.1.1
  have aE := h.1.ex
  have a8 := aE.1.1.1
  have a8b := h.1.e8
  have ew : wA a x = wA u x := (w_ext hu aT aE.1 x0 x1).1
  have et : tS a x = tS u x := (t_good hu aT aE x0 x1).1 (by unfold TO at hx; omega)
  refine g_termX h.1.1.1 x0 (by omega) (by omega) (by omega) fun t y hy _ ht => ?_
  unfold TO at hx
  obtain ⟨b1, b2, b3, b4⟩ := ht.resolve_left (fun z => by have := z.2; omega)
  exact hq t y ((h.gp hu hy).mono (by omega) (Int.le_refl _) (Int.le_refl _)) hy.2.1 ⟨b1, b2⟩ (by omega) b4
theorem g_made2D {u a : iST} {c e k f p q : Int} {Q : Int → iST → Prop} (hu : TI u) (h : CD u a c e k) (hp : IsT a p) (hp2 : IsT a q) (f0 : 4 ≤ f) (f1 : f ≤ 9) (h8 : u.1 8 + c + 3 ≤ 452000) (hq : ∀ t y, CD u y (c + 3) e k → ExtT a y → IsT y t → Sm y t → Q t y) : w_made2 f p q Q a := by
  have a8b := h.1.e8
  unfold w_made2
  exact g_made2 h.1.1.1 hp hp2 f0 f1 (by omega) fun t y hy _ _ => hq t y (h.gp hu hy.1) hy.1.2.1 hy.2.1 hy.2.2.1
theorem g_made1D {u a : iST} {c e k f p : Int} {Q : Int → iST → Prop} (hu : TI u) (h : CD u a c e k) (hp : IsT a p) (f0 : 10 ≤ f) (f1 : f ≤ 16) (h8 : u.1 8 + c + 3 ≤ 452000) (hq : ∀ t y, CD u y (c + 2) e k → ExtT a y → IsT y t → Sm y t → Q t y) : w_made f p (-1) (-1) Q a := by
  have a8b := h.1.e8
  exact g_made1 h.1.1.1 hp f0 f1 (by omega) fun t y hy _ => hq t y (h.gp hu hy.1) hy.1.2.1 hy.2.1 hy.2.2.1
theorem g_made3D {u a : iST} {c e k p q r : Int} {Q : Int → iST → Prop} (hu : TI u) (h : CD u a c e k) (hp : IsT a p) (hp2 : IsT a q) (hp3 : IsT a r) (h8 : u.1 8 + c + 4 ≤ 452000) (hq : ∀ t y, CD u y (c + 4) e k → ExtT a y → IsT y t → Sm y t → Q t y) : w_made 3 p q r Q a := by
  have a8b := h.1.e8
  exact g_made3 h.1.1.1 hp hp2 hp3 (by omega) fun t y hy => hq t y (h.gp hu hy.1) hy.1.2.1 hy.2.1 hy.2.2.1
theorem g_notOfD {u a : iST} {c e k p : Int} {Q : Int → iST → Prop} (hu : TI u) (h : CD u a c e k) (hp : TJ a p) (h8 : u.1 8 + c + 3 ≤ 452000) (hq : ∀ t y, CD u y (c + 2) e k → ExtT a y → IsT y t → Sm y t → Q t y) : w_notOf p Q a := by
  have a8b := h.1.e8
  exact g_notOf h.1.1.1 hp.1 (fun _ => hp.2) (by omega) fun t y hy h1 h2 _ _ _ => hq t y (h.gp hu hy) hy.2.1 h1 h2
theorem CD.grow {u a w : iST} {c e k d : Int} (hu : TI u) (h : CD u a c e k) (g : Grow a w d 0) : CD u w (c + d) (e + 1) k := by
  have hG : SP fLy a w d 1 := (Grow.gp h.1.1 (g.mono (Int.le_refl _) (by decide))).up fM_L
  have hF := g.2.2.2.1
  exact ⟨h.1.step hu hG (fx_s hF 117 rfl) (fx_s hF 60 rfl), h.2.1.keep h.1.1.1.1 g.extT (fx_s hF 122 rfl) (fx_a hF 121 rfl) (fun z => by rw [fx_s hF 61 rfl] at z; exact z), by rw [fx_s hF 122 rfl]; exact h.2.2⟩
