/-! evaluation -/
def Par (u : iST) (d x : Int) : Prop := ∃ k, 0 ≤ k ∧ k < u.2.1 37 d ∧ u.2.1 38 (6 * d + k) = x
/-- the bodies -/
def DB (u : iST) : Prop := ∀ d, 0 ≤ d → d < u.1 35 → TV u (Par u d) (u.2.1 39 d) ∧ sz u (u.2.1 39 d) ≤ 120
def fE (k : Nat) : Bool := decide (k ≤ 11) || decide (k = 60) || (decide (79 ≤ k) && decide (k ≤ 91))
theorem fE_T {u v : iST} (h : Fx fT u v) : Fx fE u v := h.mono (fun k hk => by simp [fE] at hk; simp [fT]; omega)
theorem SameF.E {u v : iST} (h : Fx fE u v) : SameF u v := SameF.of h rfl rfl rfl rfl rfl
/-- a term that is evaluated with the parameters of d at base, which lie below lim; or one without variables -/
def Ctx (u : iST) (d base lim t : Int) : Prop := 0 ≤ d ∧ d < 40 ∧ 0 ≤ base ∧ (TV u (fun _ => False) t ∨ (d < u.1 35 ∧ TV u (Par u d) t ∧ base + u.2.1 37 d ≤ lim))
theorem Ctx.mono {u : iST} {d base lim lim' t : Int} (h : Ctx u d base lim t) (hl : lim ≤ lim') : Ctx u d base lim' t := by
  obtain ⟨a, b, c, e⟩ := h
  exact ⟨a, b, c, e.imp id (fun ⟨x, y, z⟩ => ⟨x, y, by omega⟩)⟩
theorem Ctx.it {u : iST} {d base lim t : Int} (h : Ctx u d base lim t) : IsT u t := h.2.2.2.elim (fun z => z.1) (fun z => z.2.1.1)
theorem Ctx.args {u : iST} (hT : TI u) {d base lim t : Int} (h : Ctx u d base lim t) (hc : 0 ≤ u.2.1 0 t ∧ u.2.1 0 t ≠ 2) : ∃ n : Nat, n ≤ 6 ∧ Ar u (u.2.1 0 t) n ∧ IsL u (u.2.1 1 t) n ∧ AllE u (Ctx u d base lim) (u.2.1 1 t) n := by
  obtain ⟨a, b, c, e⟩ := h
  rcases e with e | ⟨x, y, z⟩
  · obtain ⟨n, f, g, i, j⟩ := e.args hT hc
    exact ⟨n, f, g, i, j.imp (fun q hq => ⟨a, b, c, Or.inl hq⟩)⟩
  · obtain ⟨n, f, g, i, j⟩ := y.args hT hc
    exact ⟨n, f, g, i, j.imp (fun q hq => ⟨a, b, c, Or.inr ⟨x, hq, z⟩⟩)⟩
theorem Par.same {n : Nat → Bool} {u v : iST} (h : Fx n u v) (h1 : n 37 = false) (h2 : n 38 = false) {d : Int} : Par v d = Par u d := by
  funext x
  unfold Par
  rw [fx_a h 37 h1, fx_a h 38 h2]
theorem Ctx.ext {n : Nat → Bool} {u v : iST} (hT : TI u) (hV : TI v) (h : ExtT u v) (hF : Fx n u v) (h0 : n 35 = false) (h1 : n 37 = false) (h2 : n 38 = false) {d base lim t : Int} (hc : Ctx u d base lim t) : Ctx v d base lim t := by
  obtain ⟨a, b, c, e⟩ := hc
  refine ⟨a, b, c, ?_⟩
  rw [fx_s hF 35 h0, fx_a hF 37 h1, Par.same hF h1 h2]
  exact e.imp (fun z => z.ext hT hV h) (fun ⟨x, y, z⟩ => ⟨x, y.ext hT hV h, z⟩)
theorem DB.ext {n : Nat → Bool} {u v : iST} (hT : TI u) (hV : TI v) (h : ExtT u v) (hF : Fx n u v) (h0 : n 35 = false) (h1 : n 37 = false) (h2 : n 38 = false) (h3 : n 39 = false) (hD : DB u) : DB v := by
  intro d d0 d1
  rw [fx_s hF 35 h0] at d1
  rw [fx_a hF 39 h3, Par.same hF h1 h2]
  obtain ⟨a, b⟩ := hD d d0 d1
  exact ⟨a.ext hT hV h, by rw [h.szx a.1]; exact b⟩
/-- frame k: its call, m terms to come; its values begin at V -/
def EF (u : iST) (k : Int) (n m : Nat) (V : Int) : Prop := 0 ≤ u.2.1 0 (u.2.1 79 k) ∧ u.2.1 0 (u.2.1 79 k) ≠ 2 ∧ Ctx u (u.2.1 82 k) (u.2.1 83 k) V (u.2.1 79 k) ∧ Ar u (u.2.1 0 (u.2.1 79 k)) n ∧ n ≤ 6 ∧ m ≤ n ∧ IsL u (u.2.1 80 k) m ∧ AllE u (Ctx u (u.2.1 82 k) (u.2.1 83 k) V) (u.2.1 80 k) m ∧ u.2.1 81 k = V ∧ 0 ≤ V ∧ V ≤ 6 * k
/-- k frames wait for a value; V values are held; rank q; c of the frames have still to find their value -/
def Ev (u : iST) : Nat → Int → Int → Int → Prop
  | 0, V, q, c => V = 0 ∧ q = 0 ∧ c = 0
  | k + 1, V, q, c => ∃ (V' q' c' : Int) (n m : Nat), EF u k n m V' ∧ Ev u k V' q' c' ∧ V' ≤ V ∧ V ≤ V' + 6 ∧ ((u.2.1 84 k ≠ 0 ∧ q = q' + 1 ∧ c = c') ∨ (u.2.1 84 k = 0 ∧ q = q' + 4 + 2 * m ∧ c = c' + 1 ∧ ((u.2.1 0 (u.2.1 79 k) = 3 ∧ V = V') ∨ (u.2.1 0 (u.2.1 79 k) ≠ 3 ∧ V + 1 + m = V' + n))))
theorem Ev.r {u : iST} : ∀ {k : Nat} {V q c : Int}, Ev u k V q c → 0 ≤ V ∧ V ≤ 6 * k ∧ 0 ≤ q ∧ 0 ≤ c
  | 0, V, q, c, ⟨h1, h2, h3⟩ => by omega
  | k + 1, V, q, c, ⟨V', q', c', n, m, h1, h2, h3, h4, h5⟩ => by
    have := Ev.r h2
    omega
theorem EF.ext {u v : iST} (hT : TI u) (hV : TI v) (h : ExtT u v) (hF : Fx fE u v) {k V : Int} {n m : Nat} (e1 : v.2.1 79 k = u.2.1 79 k) (e2 : v.2.1 80 k = u.2.1 80 k) (e3 : v.2.1 81 k = u.2.1 81 k) (e4 : v.2.1 82 k = u.2.1 82 k) (e5 : v.2.1 83 k = u.2.1 83 k) (hh : EF u k n m V) : EF v k n m V := by
  obtain ⟨a1, a2, a3, a4, a5, a6, a7, a8, a9, a10, a11⟩ := hh
  have hr := a3.it.r
  have ex := h.1.2.1 _ hr.1 hr.2
  unfold EF
  rw [e1, e2, e3, e4, e5, ex.1]
  exact ⟨a1, a2, a3.ext hT hV h hF rfl rfl rfl, h.2.2 _ _ a1 a4, a5, a6, a7.ext hT h.1, (a8.ext h.1 a7).imp (fun y hy => hy.ext hT hV h hF rfl rfl rfl), a9, a10, a11⟩
theorem Ev.ext {u v : iST} (hT : TI u) (hV : TI v) (h : ExtT u v) (hF : Fx fE u v) : ∀ {k : Nat} {V q c : Int}, (∀ i : Nat, i < k → v.2.1 79 i = u.2.1 79 i ∧ v.2.1 80 i = u.2.1 80 i ∧ v.2.1 81 i = u.2.1 81 i ∧ v.2.1 82 i = u.2.1 82 i ∧ v.2.1 83 i = u.2.1 83 i ∧ v.2.1 84 i = u.2.1 84 i) → Ev u k V q c → Ev v k V q c
  | 0, _, _, _, _, h1 => h1
  | k + 1, V, q, c, he, ⟨V', q', c', n, m, h1, h2, h3, h4, h5⟩ => by
    obtain ⟨e1, e2, e3, e4, e5, e6⟩ := he k (by omega)
    have hr := h1.2.2.1.it.r
    have ex := h.1.2.1 _ hr.1 hr.2
    refine ⟨V', q', c', n, m, h1.ext hT hV h hF e1 e2 e3 e4 e5, Ev.ext hT hV h hF (fun i hi => he i (by omega)) h2, h3, h4, ?_⟩
    rw [e6, e1, ex.1]
    exact h5
/-- what all states within an evaluation keep -/
def E0 (u w : iST) (c : Int) : Prop := TI w ∧ ExtT u w ∧ Fx fE u w ∧ u.1 60 ≤ w.1 60 ∧ w.1 60 ≤ w.1 59 ∧ w.1 8 + c ≤ u.1 8 + (w.1 60 - u.1 60) ∧ w.1 6 + c ≤ u.1 6 + (w.1 60 - u.1 60) ∧ w.1 11 = u.1 11 ∧ 0 ≤ w.1 88 + w.1 60 ∧ w.1 88 ≤ 100 ∧ (∀ i, 0 ≤ i → i < w.1 87 → 0 ≤ w.2.1 86 i ∧ w.2.1 86 i < w.1 8)
/-- a value is at hand, or the innermost frame goes on, or it was stopped -/
def EI (u : iST) (N : Nat) (w : iST) : Prop := ∃ (k : Nat) (V q c : Int), w.1 85 = k ∧ k ≤ 300 ∧ w.1 87 = V ∧ E0 u w c ∧ 0 ≤ c ∧ ((w.1 89 ≠ 0) ∨ (w.1 90 ≠ 0 ∧ 0 ≤ w.1 91 ∧ w.1 91 < w.1 8 ∧ Ev w k V q c ∧ (N : Int) = 20 * (w.1 59 - w.1 60) + q + 1) ∨ (w.1 90 = 0 ∧ ∃ (k' : Nat) (V' q' c' : Int) (n m : Nat), k = k' + 1 ∧ EF w k' n m V' ∧ Ev w k' V' q' c' ∧ w.2.1 84 k' = 0 ∧ V + m = V' + n ∧ V' ≤ V ∧ c = c' + 1 ∧ (w.2.1 0 (w.2.1 79 k') = 3 → V = V') ∧ (N : Int) = 20 * (w.1 59 - w.1 60) + q' + 4 + 2 * m))
