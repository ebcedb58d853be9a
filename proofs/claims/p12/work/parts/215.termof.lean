/-! termOf -/
theorem IsL.elr {u : iST} (hT : TI u) : ∀ {n : Nat} {l : Int}, IsL u l n → ∀ i, i < n → 0 ≤ el u l i ∧ el u l i < u.1 8
  | n + 1, l, h, 0, _ => by
    have hp := hT.pair h.1 h.2.1 h.2.2.1
    have h1 := h.2.1
    have h2 := h.2.2.1
    show 0 ≤ u.2.1 0 l ∧ u.2.1 0 l < u.1 8
    omega
  | n + 1, l, h, i + 1, hi => IsL.elr hT h.2.2.2 i (by omega)
/-- t is the term of the text x, seen from outside -/
def T1 (u : iST) (x t : Int) : Prop := (u.2.1 0 x < 0 ∧ t = x) ∨ (Quo u x ∧ (t = x ∨ (t = u.2.1 0 (u.2.1 1 x) ∧ u.2.1 0 t < 0 ∧ Cst u t))) ∨ (0 ≤ u.2.1 0 x ∧ u.2.1 0 x ≠ 2 ∧ u.2.1 0 t = u.2.1 0 x)
def T2 (u : iST) (x t : Int) : Prop := T1 u x t ∧ (0 ≤ u.2.1 0 x ∧ u.2.1 0 x ≠ 2 → ∃ n : Nat, IsL u (u.2.1 1 x) n ∧ IsL u (u.2.1 1 t) n ∧ ∀ i, i < n → T1 u (el u (u.2.1 1 x) i) (el u (u.2.1 1 t) i))
theorem Cst_ex {u v : iST} (hT : TI u) (h : Ext u v) {k : Int} (k0 : 0 ≤ k) (k1 : k < u.1 8) (hc : Cst u k) : Cst v k := by
  rcases hc with z | z | z | z
  · exact Or.inl (by rw [(h.2.1 k k0 k1).1]; exact z)
  · exact Or.inr (Or.inl z)
  · exact Or.inr (Or.inr (Or.inl z))
  · exact Or.inr (Or.inr (Or.inr ((Quo_ext hT h k0 k1).mpr z)))
theorem T1.ext {u v : iST} (hT : TI u) (h : Ext u v) {x t : Int} (x0 : 0 ≤ x) (x1 : x < u.1 8) (t0 : 0 ≤ t) (t1 : t < u.1 8) (hx : T1 u x t) : T1 v x t := by
  have ex := h.2.1 x x0 x1
  have et := h.2.1 t t0 t1
  rcases hx with ⟨a, b⟩ | ⟨a, b⟩ | ⟨a, b, c⟩
  · exact Or.inl ⟨by rw [ex.1]; exact a, b⟩
  · refine Or.inr (Or.inl ⟨(Quo_ext hT h x0 x1).mpr a, b.imp id (fun ⟨b1, b2, b3⟩ => ⟨?_, by rw [et.1]; exact b2, Cst_ex hT h t0 t1 b3⟩)⟩)
    have p := hT.right_r x0 x1
    rw [ex.2.1, (h.2.1 _ p.1 p.2).1]; exact b1
  · exact Or.inr (Or.inr ⟨by rw [ex.1]; exact a, by rw [ex.1]; exact b, by rw [ex.1, et.1]; exact c⟩)
theorem T2.ext {u v : iST} (hT : TI u) (h : Ext u v) {x t : Int} (x0 : 0 ≤ x) (x1 : x < u.1 8) (t0 : 0 ≤ t) (t1 : t < u.1 8) (hx : T2 u x t) : T2 v x t := by
  have ex := h.2.1 x x0 x1
  have et := h.2.1 t t0 t1
  refine ⟨hx.1.ext hT h x0 x1 t0 t1, fun z => ?_⟩
  obtain ⟨n, a, b, c⟩ := hx.2 (by rw [← ex.1]; exact z)
  rw [ex.2.1, et.2.1]
  refine ⟨n, a.ext hT h, b.ext hT h, fun i hi => ?_⟩
  rw [el_ext h a i hi, el_ext h b i hi]
  have ra := IsL.elr hT a i hi
  have rb := IsL.elr hT b i hi
  exact (c i hi).ext hT h ra.1 ra.2 rb.1 rb.2
/-- an open call: what was built is the terms of its first texts -/
def FrT (w : iST) (k b : Int) (j j' m : Nat) : Prop := w.2.1 0 (w.2.1 66 k) ≠ 2 ∧ IsL w (w.2.1 1 (w.2.1 66 k)) (j' + m) ∧ j ≤ j' ∧ (∀ i : Nat, i < j → T1 w (el w (w.2.1 1 (w.2.1 66 k)) i) (w.2.1 70 (b + i))) ∧ ∀ i, i < m → el w (w.2.1 67 k) i = el w (w.2.1 1 (w.2.1 66 k)) (j' + i)
theorem FrT.ext {u v : iST} (hT : TI u) (h : Ext u v) {k b : Int} {j j' m : Nat} (c0 : 0 ≤ u.2.1 66 k) (c1 : u.2.1 66 k < u.1 8) (hm : IsL u (u.2.1 67 k) m) (e6 : v.2.1 66 k = u.2.1 66 k) (e7 : v.2.1 67 k = u.2.1 67 k) (h70 : ∀ i : Nat, i < j → IsT u (u.2.1 70 (b + i)) ∧ v.2.1 70 (b + i) = u.2.1 70 (b + i)) (hF : FrT u k b j j' m) : FrT v k b j j' m := by
  obtain ⟨a0, a1, a2, a3, a4⟩ := hF
  have e := h.2.1 _ c0 c1
  unfold FrT
  rw [e6, e7, e.1, e.2.1]
  refine ⟨a0, a1.ext hT h, a2, fun i hi => ?_, fun i hi => ?_⟩
  · have r := IsL.elr hT a1 i (by omega)
    have q := h70 i hi
    rw [el_ext h a1 i (by omega), q.2]
    exact (a3 i hi).ext hT h r.1 r.2 q.1.r.1 q.1.r.2
  · rw [el_ext h hm i hi, el_ext h a1 (j' + i) (by omega)]; exact a4 i hi
def GTop (u : iST) (k : Int) (b : Int) (n m : Nat) : Prop := 0 ≤ u.2.1 66 k ∧ u.2.1 66 k < u.1 8 ∧ 0 ≤ u.2.1 0 (u.2.1 66 k) ∧ u.2.1 0 (u.2.1 66 k) < u.1 8 ∧ Ar u (u.2.1 0 (u.2.1 66 k)) n ∧ n ≤ 6 ∧ m ≤ n ∧ IsL u (u.2.1 67 k) m ∧ u.2.1 68 k = b
theorem SameF.symm {u v : iST} (h : SameF u v) : SameF v u := ⟨h.1.symm, h.2.1.symm, h.2.2.1.symm, h.2.2.2.1.symm, h.2.2.2.2.symm⟩
theorem t_same {u v : iST} (hT : TI u) (hV : TI v) (hE : Ext u v) (hS : SameF u v) {x : Int} (x0 : 0 ≤ x) (x1 : x < u.1 8) : tS v x = tS u x ∧ tL v x = tL u x := t_ext hT hV hE (fun _ _ _ => hS.ar) (fun _ _ _ => hS.symm.ar) x0 x1
/-- the sizes in an open call -/
def FrE (w : iST) (k : Int) (b : Int) (j : Nat) (s : Int) : Prop := tL w (w.2.1 1 (w.2.1 66 k)) = sumB w b j + s + tL w (w.2.1 67 k) ∧ tS w (w.2.1 66 k) = capT (tL w (w.2.1 1 (w.2.1 66 k)))
theorem sumB_ex {u v : iST} (h : ExtT u v) : ∀ {n : Nat} {b : Int}, (∀ i : Nat, i < n → IsT u (u.2.1 70 (b + i)) ∧ v.2.1 70 (b + i) = u.2.1 70 (b + i)) → sumB v b n = sumB u b n
  | 0, _, _ => rfl
  | n + 1, b, hi => by
    show sz v (v.2.1 70 b) + sumB v (b + 1) n = sz u (u.2.1 70 b) + sumB u (b + 1) n
    have h0 := hi 0 (by omega)
    rw [show b + ((0 : Nat) : Int) = b from by omega] at h0
    rw [h0.2, h.szx h0.1, sumB_ex h (fun i hi2 => by
      have := hi (i + 1) (by omega)
      rw [show b + ((i + 1 : Nat) : Int) = b + 1 + i from by omega] at this
      exact this)]
theorem FrE.ext {u v : iST} (hT : TI u) (hV : TI v) (h : ExtT u v) (hS : SameF u v) {k b s : Int} {j : Nat} (c0 : 0 ≤ u.2.1 66 k) (c1 : u.2.1 66 k < u.1 8) (l0 : 0 ≤ u.2.1 67 k) (l1 : u.2.1 67 k < u.1 8) (e6 : v.2.1 66 k = u.2.1 66 k) (e7 : v.2.1 67 k = u.2.1 67 k) (h70 : ∀ i : Nat, i < j → IsT u (u.2.1 70 (b + i)) ∧ v.2.1 70 (b + i) = u.2.1 70 (b + i)) (hF : FrE u k b j s) : FrE v k b j s := by
  have r := hT.right_r c0 c1
  unfold FrE at *
  rw [e6, e7, (h.1.2.1 _ c0 c1).2.1, (t_same hT hV h.1 hS r.1 r.2).2, (t_same hT hV h.1 hS c0 c1).1, (t_same hT hV h.1 hS l0 l1).2, sumB_ex h h70]
  exact hF
def Gr (u : iST) : Nat → Int → Int → Int → Prop
  | 0, b, p, q => b = 0 ∧ p = 0 ∧ q = 0
  | k + 1, b, p, q => ∃ (b' p' q' : Int) (n m j : Nat), GTop u k b' n m ∧ j + 1 + m = n ∧ b = b' + j ∧ (∀ i : Nat, i < j → IsT u (u.2.1 70 (b' + i))) ∧ p = p' + (n + 1) + (wB u (u.2.1 67 k) - m) ∧ q = q' + 1 + 2 * wB u (u.2.1 67 k) ∧ FrE u k b' j (tS u (u.2.1 66 ((k + 1 : Nat) : Int))) ∧ (FrT u k b' j (j + 1) m ∧ u.2.1 66 ((k + 1 : Nat) : Int) = el u (u.2.1 1 (u.2.1 66 k)) j) ∧ Gr u k b' p' q'
theorem Gr.r {u : iST} (hT : TI u) : ∀ {k : Nat} {b p q : Int}, Gr u k b p q → 0 ≤ b ∧ b ≤ p ∧ (k : Int) ≤ p ∧ 0 ≤ q
  | 0, b, p, q, ⟨h1, h2, h3⟩ => by omega
  | k + 1, b, p, q, ⟨b', p', q', n, m, j, h1, h2, h3, h4, h5, h6, _, _, h7⟩ => by
    have := Gr.r hT h7
    have hs := wB_len hT h1.2.2.2.2.2.2.2.1
    omega
theorem GTop.ext {u v : iST} (hT : TI u) (h : ExtT u v) {k b : Int} {n m : Nat} (e6 : v.2.1 66 k = u.2.1 66 k) (e7 : v.2.1 67 k = u.2.1 67 k) (e8 : v.2.1 68 k = u.2.1 68 k) (hF : GTop u k b n m) : GTop v k b n m := by
  obtain ⟨a1, a2, a3, a4, a5, a6, a7, a8, a10⟩ := hF
  have hE := h.1
  have := hE.1.1
  unfold GTop
  rw [e6, e7, e8, (hE.2.1 _ a1 a2).1]
  exact ⟨a1, by omega, a3, by omega, h.2.2 _ _ a3 a5, a6, a7, a8.ext hT hE, a10⟩
theorem Gr.ext {u v : iST} (hT : TI u) (hV : TI v) (h : ExtT u v) (hS : SameF u v) : ∀ {k : Nat} {b p q : Int}, (∀ i : Nat, i ≤ k → v.2.1 66 i = u.2.1 66 i) → (0 ≤ u.2.1 66 k ∧ u.2.1 66 k < u.1 8) → (∀ i : Nat, i < k → v.2.1 67 i = u.2.1 67 i ∧ v.2.1 68 i = u.2.1 68 i) → (∀ i, 0 ≤ i → i < b → v.2.1 70 i = u.2.1 70 i) → Gr u k b p q → Gr v k b p q
  | 0, _, _, _, _, _, _, _, h1 => h1
  | k + 1, b, p, q, h66, hr, he, h70, ⟨b', p', q', n, m, j, h1, h2, h3, h4, h5, h6, h8, h9, h7⟩ => by
    have e := he k (by omega)
    have hb' := (Gr.r hT h7).1
    have hl := h1.2.2.2.2.2.2.2.1.r (by have := hT.1; omega)
    have hs : wB v (u.2.1 67 k) = wB u (u.2.1 67 k) := (w_ext hT hV h.1 hl.1 hl.2).2
    refine ⟨b', p', q', n, m, j, h1.ext hT h (h66 k (by omega)) e.1 e.2, h2, h3, fun i hi => ?_, ?_, ?_, ?_, ⟨h9.1.ext hT h.1 h1.1 h1.2.1 h1.2.2.2.2.2.2.2.1 (h66 k (by omega)) e.1 (fun i hi => ⟨h4 i hi, h70 _ (by omega) (by omega)⟩), ?_⟩, Gr.ext hT hV h hS (fun i hi => h66 i (by omega)) ⟨h1.1, h1.2.1⟩ (fun i hi => he i (by omega)) (fun i i0 i1 => h70 i i0 (by omega)) h7⟩
    · rw [h70 _ (by omega) (by omega)]
      exact (h4 i hi).ext hT h
    · rw [e.1, hs]; exact h5
    · rw [e.1, hs]; exact h6
    · rw [h66 (k + 1) (by omega), (t_same hT hV h.1 hS hr.1 hr.2).1]
      exact h8.ext hT hV h hS h1.1 h1.2.1 hl.1 hl.2 (h66 k (by omega)) e.1 (fun i hi => ⟨h4 i hi, h70 _ (by omega) (by omega)⟩)
    · rw [h66 (k + 1) (by omega), h66 k (by omega), (h.1.2.1 _ h1.1 h1.2.1).2.1, el_ext h.1 h9.1.2.1 j (by omega)]; exact h9.2
theorem FrE.bad {w : iST} (hT : TI w) {k b s : Int} {j : Nat} (l0 : 0 ≤ w.2.1 67 k) (l1 : w.2.1 67 k < w.1 8) (hI : ∀ i : Nat, i < j → IsT w (w.2.1 70 (b + i))) (s0 : 0 ≤ s) (hF : FrE w k b j s) (hs : 10000000 ≤ s + tL w (w.2.1 67 k)) : 10000000 ≤ tS w (w.2.1 66 k) := by
  have h1 := sumB_r hT hI
  have h2 := t_pos hT l0 l1
  obtain ⟨a, c⟩ := hF
  rw [c, (capT_r _ (by omega)).2 (by omega)]
  exact Int.le_refl _
theorem Gr.bad {w : iST} (hT : TI w) : ∀ {k : Nat} {b p q : Int}, (0 ≤ w.2.1 66 k ∧ w.2.1 66 k < w.1 8) → Gr w k b p q → 10000000 ≤ tS w (w.2.1 66 k) → 10000000 ≤ tS w (w.2.1 66 0)
  | 0, _, _, _, _, _, h => h
  | k + 1, b, p, q, hr, ⟨b', p', q', n, m, j, h1, h2, h3, h4, h5, h6, h8, _, h7⟩, h => by
    have hl := h1.2.2.2.2.2.2.2.1.r (by have := hT.1; omega)
    have hp := t_pos hT hl.1 hl.2
    exact Gr.bad hT ⟨h1.1, h1.2.1⟩ h7 (h8.bad hT hl.1 hl.2 h4 (by omega) (by omega))
def BI0 (u : iST) (w : iST) : Prop := TI w ∧ ExtT u w ∧ Fx fB u w ∧ w.1 61 = u.1 61 ∧ w.1 6 = u.1 6 ∧ w.1 11 = u.1 11
def BI (u : iST) (o : Int) (N : Nat) (w : iST) : Prop := BI0 u w ∧ ((w.1 69 = 0 ∧ w.1 71 = 1 ∧ IsT w (w.2.1 70 0) ∧ w.1 8 ≤ u.1 8 + wA u o - 1 ∧ sz w (w.2.1 70 0) = tS u o ∧ T2 w o (w.2.1 70 0)) ∨ ∃ (k : Nat) (b p q : Int) (n m j : Nat), w.1 69 = k + 1 ∧ GTop w k b n m ∧ j + m = n ∧ w.1 71 = b + j ∧ (∀ i : Nat, i < j → IsT w (w.2.1 70 (b + i))) ∧ Gr w k b p q ∧ w.1 8 + p + (n + 1) + (wB w (w.2.1 67 k) - m) ≤ u.1 8 + wA u o - 1 ∧ (N : Int) = q + 1 + 2 * wB w (w.2.1 67 k) ∧ FrE w k b j 0 ∧ w.2.1 66 0 = o ∧ FrT w k b j j m)
def TmPost (u : iST) (o : Int) (t : Int) (v : iST) : Prop := BI0 u v ∧ v.1 69 = 0 ∧ v.1 71 = 0 ∧ v.1 8 ≤ u.1 8 + wA u o - 1 ∧ ((t = -1 ∧ 120 < tS u o) ∨ (IsT v t ∧ sz v t ≤ 120 ∧ sz v t = tS u o ∧ T2 v o t))
theorem sz_cst {u : iST} (hT : TI u) {k : Int} (h : Cst u k) : sz u k = 1 := by
  unfold sz
  rw [if_neg]
  rcases h with z | z | z | z
  · omega
  · have := hT.2.2.2.2.2.2.2.2.1 0 (by decide) (by decide); rw [z]; omega
  · have := hT.2.2.2.2.2.2.2.2.1 1 (by decide) (by decide); rw [z]; omega
  · have := z.2.1; omega
theorem Quo_const {u : iST} (hT : TI u) {k : Int} {K : Int → iST → Prop} (k0 : 0 ≤ k) (k1 : k < u.1 8) (hq : Quo u k) (h8 : u.1 8 < 451999) (hK : ∀ t, IsT u t → sz u t = 1 → (t = k ∨ (t = u.2.1 0 (u.2.1 1 k) ∧ u.2.1 0 t < 0 ∧ Cst u t)) → K t u) : w_constantOf (u.2.1 0 (u.2.1 1 k)) K u := by
  have p1 := hT.pair k0 k1 hq.1
  have p2 := hT.pair p1.2.1 (by omega) hq.2.2.1
  have v0 := hq.2.2.1
  unfold w_constantOf
  have same : Cst u (u.2.1 0 (u.2.1 1 k)) → u.2.1 0 (u.2.1 0 (u.2.1 1 k)) < 0 → K (u.2.1 0 (u.2.1 1 k)) u := fun hc hn => hK _ (IsT.cst v0 (by omega) hT hc) (sz_cst hT hc) (Or.inr ⟨rfl, hn, hc⟩)
  have s0 := hT.2.2.2.2.2.2.2.2.1 0 (by decide) (by decide)
  have s1 := hT.2.2.2.2.2.2.2.2.1 1 (by decide) (by decide)
  refine s_isNatural v0 (by omega) fun r _ hr => br_i (fun hc => ?_) fun hc => br_i (fun hd => same (Or.inr (Or.inl hd)) (by rw [hd]; omega)) fun hd => br_i (fun he => ?_) (fun he => same (Or.inr (Or.inr (Or.inl (by omega)))) (by rw [show u.2.1 0 (u.2.1 1 k) = 1 from by omega]; omega))
  · have : ¬ (u.2.1 0 (u.2.1 0 (u.2.1 1 k)) ≠ -1) := fun z => hc (hr.mpr z)
    exact same (Or.inl (by omega)) (by omega)
  · refine g_list2 hT h8 (by decide) (by have := hT.1; omega) v0 (by omega) fun t v hg t0 t1 a1 a2 a3 a4 a5 => ?_
    obtain ⟨e1, e2⟩ := a5 k k0 k1 hq.2.1 p1.2.1 (by omega) rfl hq.2.2.2
    rw [e1, e2]
    exact hK k (IsT.mk ⟨k0, k1, Or.inr (Or.inl hq)⟩) (sz_cst hT (Or.inr (Or.inr (Or.inr hq)))) (Or.inl rfl)
theorem g_termOf {o : Int} {Q : Int → iST → Prop} {u : iST} (hT : TI u) (hD : DI u) (hc : u.1 69 = 0) (hb : u.1 71 = 0) (o0 : 0 ≤ o) (o1 : o < u.1 8) (hw : wA u o ≤ 1100) (h8 : u.1 8 + wA u o < 451990) (hq : ∀ t v, TmPost u o t v → Q t v) : w_termOf o Q u := by
  have h44 := hT.1
  have hsr := w_pos hT o0 o1
  have begin : ∀ {a : Int} {w : iST} {K : Int → iST → Prop}, TI w → DI w → 0 ≤ a → a < w.1 8 → w.1 8 < 451990 → 0 ≤ w.1 71 → w.1 71 < 2400 → 0 ≤ w.1 69 → w.1 69 < 1200 → (tS w a = 10000000 → K 0 w) → (∀ x, IsT w x → sz w x = tS w a → T1 w a x → ¬ (0 ≤ w.2.1 0 a ∧ w.2.1 0 a ≠ 2) → K 1 (iI (iA w 70 (w.1 71) x) 71 (w.1 71 + 1))) → (∀ n : Nat, n ≤ 6 → 0 ≤ w.2.1 0 a → ¬ Quo w a → Ar w (w.2.1 0 a) n → IsL w (w.2.1 1 a) n → w.2.1 0 (w.2.1 0 a) = -2 → tS w a = capT (tL w (w.2.1 1 a)) → w.2.1 0 a ≠ 2 → K 1 (uOpen w a)) → w_beginTerm a K w := by
    intro a w K wT wD a0 a1 w8 w0 w1 w2 w3 kbad k1 k2
    unfold w_beginTerm
    refine s_isPair a0 (by omega) fun r _ hr => br_i (fun hz => ?_) (fun hz => s_build w0 w1 (zt_1 (k1 a (IsT.mk ⟨a0, a1, Or.inl (hr.mp (by omega))⟩) (by rw [tS_atom a0 (hr.mp (by omega))]; unfold sz; rw [if_neg (by have := hr.mp (by omega); omega)]) (Or.inl ⟨hr.mp (by omega), rfl⟩) (fun z => by have := hr.mp (by omega); omega))))
    have hp : 0 ≤ w.2.1 0 a := by
      have : ¬ w.2.1 0 a < 0 := fun z => hz (hr.mpr z)
      omega
    have p := wT.pair a0 a1 hp
    refine bd_i a0 (by omega) (rd_i fun _ => br_i (fun hne => ?_) (fun he => ?_))
    · have nq : ¬ Quo w a := fun z => hne z.2.1
      refine bd_i a0 (by omega) (rd_i fun _ => s_isSymbol hp (by omega) fun r2 _ hr2 => br_i (fun hs2 => ?_) (fun hs2 => zt_0 (kbad (tS_bad a0 hp nq (fun z => absurd z.2.1 (hr2.mp (by omega)))))))
      have hsy : w.2.1 0 (w.2.1 0 a) = -2 := by
        have : ¬ (w.2.1 0 (w.2.1 0 a) ≠ -2) := fun z => hs2 (hr2.mpr z)
        omega
      refine bd_i a0 (by omega) (rd_i fun _ => s_functionOf wD.1 wD.2.1 fun f hf => br_i (fun hfn => zt_0 (kbad (tS_bad a0 hp nq (fun ⟨_, _, n, _, ⟨r, z1, z2, _⟩, _⟩ => z2 ((z1.fun hf).trans hfn))))) fun hfn => bd_i a0 (by omega) (rd_i fun _ => ?_))
      refine s_lengthOf wT p.2.1 (by omega) (fun hno => s_manyOf wD hf hp hfn fun n hn ha => br_i (fun z => by omega) (fun _ => zt_0 (kbad (tS_bad a0 hp nq (fun ⟨_, _, n, _, _, z⟩ => hno n z))))) (fun ln _ hl => s_manyOf wD hf hp hfn fun n hn ha => br_i (fun z => ?_) (fun hne2 => zt_0 (kbad (tS_bad a0 hp nq (fun ⟨_, _, n', _, z1, z2⟩ => by have e1 := z1.fun ha; have e2 := IsL_uniq wT z2 hl; omega)))))
      have e : ln = n := by omega
      subst e
      exact s_openCall a0 (by omega) w2 w3 (zt_1 (k2 ln hn hp (fun hqq => hne hqq.2.1) ha hl hsy (tS_call wT a0 a1 hp ⟨hne, hsy, ln, hn, ha, hl⟩) hne))
    · refine s_isQuoted wT a0 a1 fun r2 _ hr2 => br_i (fun hz2 => ?_) (fun hz2 => zt_0 (kbad (tS_bad a0 hp (fun z => hz2 (hr2.mpr z)) (fun z => hz2 (absurd (show w.2.1 0 a = 2 by omega) z.1)))))
      have hqq := hr2.mp hz2
      have p2 := wT.pair p.2.1 (by omega) hqq.2.2.1
      refine bd_i a0 (by omega) (rd_i fun _ => bd_i p.2.1 (by omega) (rd_i fun _ => Quo_const wT a0 a1 hqq (by omega) fun t ht hts htt => s_build w0 w1 (zt_1 (k1 t ht (by rw [hts, tS_quo a0 hqq]) (Or.inr (Or.inl ⟨hqq, htt⟩)) (fun z => z.2 hqq.2.1)))))
  have fin : ∀ (x4 : Int) (w : iST), BI0 u w → w.1 8 ≤ u.1 8 + wA u o - 1 → (x4 = 0 → 120 < tS u o) → (x4 ≠ 0 → w.1 71 = 1 ∧ IsT w (w.2.1 70 0) ∧ sz w (w.2.1 70 0) = tS u o ∧ T2 w o (w.2.1 70 0)) → w_termOf_147 Q 0 0 x4 w := by
    intro x4 w hw0 hw8 hwb hwt
    obtain ⟨wT, wE, wF, w61, w6, w11⟩ := hw0
    have vt : ∀ k, k ≤ 11 → (iI (iI w 69 0) 71 0).1 k = w.1 k ∧ (iI (iI w 69 0) 71 0).2.1 k = w.2.1 k := fun k hk => ⟨(if_neg (by omega)).trans (if_neg (by omega)), rfl⟩
    have vS : SameF w (iI (iI w 69 0) 71 0) := ⟨rfl, rfl, rfl, rfl, rfl⟩
    have vE : ExtT w (iI (iI w 69 0) 71 0) := ExtT.same vt rfl vS
    have vB : BI0 u (iI (iI w 69 0) 71 0) := ⟨TI_eq wT vt rfl, wE.tr hT vE, wF.tr ((Fx_I (k := 69) rfl).tr (Fx_I (k := 71) rfl)), w61, w6, w11⟩
    unfold w_termOf_147
    refine sw_i (sw_i (br_i (fun hz => hq _ _ ⟨vB, rfl, rfl, hw8, Or.inl ⟨rfl, hwb hz⟩⟩) fun hz => ?_))
    obtain ⟨e71, ht, hts, htt⟩ := hwt hz
    have u8 := wE.1.1.1
    have hr := ht.r
    refine bd_i (by decide) (by decide) (rd_i fun _ => s_sizeOf (u := iI (iI w 69 0) 71 0) hr.1 (show w.2.1 70 0 < 452000 by have := wT.2.1; omega) fun _ => br_i (fun hgt => hq _ _ ⟨vB, rfl, rfl, hw8, Or.inl ⟨rfl, by have hgt : 120 < sz w (w.2.1 70 0) := hgt; omega⟩⟩) fun hle => bd_i (by decide) (by decide) (rd_i fun _ => ?_))
    exact hq _ _ ⟨vB, rfl, rfl, hw8, Or.inr ⟨ht.ext wT vE, by have hle : ¬ 120 < sz w (w.2.1 70 0) := hle; show sz (iI (iI w 69 0) 71 0) (w.2.1 70 0) ≤ 120; rw [vE.szx ht]; omega, by show sz (iI (iI w 69 0) 71 0) (w.2.1 70 0) = _; rw [vE.szx ht]; exact hts, htt.ext wT vE.1 o0 (by omega) hr.1 hr.2⟩⟩
  have main : ∀ (N : Nat) (x4 : Int) (w : iST), (x4 = 0 ∧ BI0 u w ∧ w.1 8 ≤ u.1 8 + wA u o - 1 ∧ 120 < tS u o ∨ x4 = 1 ∧ BI u o N w) → w_termOf_17 Q 0 0 x4 w := by
    intro N x4 w hw
    unfold w_termOf_17
    refine lr3 (B := fun R x2 x3 x4 u => w_termOf_17b R Q x2 x3 x4 u) (fun N x2 x3 x4 w => x2 = 0 ∧ x3 = 0 ∧ (x4 = 0 ∧ BI0 u w ∧ w.1 8 ≤ u.1 8 + wA u o - 1 ∧ 120 < tS u o ∨ x4 = 1 ∧ BI u o N w)) ?_ (n := N) ⟨rfl, rfl, hw⟩
    intro N x2 x3 x4 w hI R ih
    obtain ⟨rfl, rfl, hI⟩ := hI
    unfold w_termOf_17b
    rcases hI with ⟨rfl, hI1, hI2, hI3⟩ | ⟨rfl, hB0, hcase⟩
    · exact rd_i fun _ => br_i (fun _ => fin _ w hI1 hI2 (fun _ => hI3) (fun z => absurd rfl z)) fun _ => br_y rfl (fin _ w hI1 hI2 (fun _ => hI3) (fun z => absurd rfl z))
    · have hB0' := hB0
      obtain ⟨wT, wE, wF, w61, w6, w11⟩ := hB0
      have wD : DI w := hD.ext wE.1 (SameF.B wF)
      have w8b := wE.1.1.1
      rcases hcase with ⟨c1, c2, c3, c5, c6, c7⟩ | ⟨k, b, p, q, n, m, j, d1, d2, d3, d4, d5, d6, d9, d10, d11, d12, d13⟩
      · exact rd_i fun _ => br_y (by omega) (fin _ w hB0' c5 (fun z => absurd z (by decide)) (fun _ => ⟨c2, c3, c6, c7⟩))
      · obtain ⟨t1, t2, t3, t4, t5, t6, t7, t8, t10⟩ := d2
        have hfr := d6.r wT
        have wSu : SameF u w := SameF.B wF
        have tSo : tS w o = tS u o := (t_same hT wT wE.1 wSu o0 o1).1
        have l67 := t8.r (by have := wT.1; omega)
        have hsm := wB_len wT t8
        have hk : (k : Int) < 1199 := by omega
        refine rd_i fun _ => br_n (by omega) (br_n (by decide) (rd_i fun _ => ov_i (by omega) (by omega) ?_))
        rw [show w.1 69 - 1 = (k : Int) from by omega]
        refine bd_i (by omega) (by omega) (rd_i fun _ => br_i (fun hne => ?_) (fun hz => ?_))
        · obtain ⟨m', rfl⟩ : ∃ m', m = m' + 1 := by
            cases m with
            | zero => exact absurd t8 hne
            | succ m' => exact ⟨m', rfl⟩
          obtain ⟨l1, l2, l3, l4⟩ := t8
          have hp := wT.pair l1 l2 l3
          have hsa := w_pos wT (x := w.2.1 0 (w.2.1 67 (k : Int))) l3 (by omega)
          have hs2 := wB_len wT l4
          have esum := wB_pair wT l1 l2 l3
          rw [esum] at d9 d10
          refine bd_i (by omega) (by omega) (rd_i fun _ => bd_i l1 (by omega) (rd_i fun _ => bd_i (by omega) (by omega) (rd_i fun _ => bd_i l1 (by omega) (rd_i fun _ => bd_i (by omega) (by omega) (sw_i ?_)))))
          generalize hrr : w.2.1 67 (k : Int) = rr at *
          generalize haa : w.2.1 0 rr = a at *
          generalize hw1 : iA w 67 (k : Int) (w.2.1 1 rr) = w1
          have x67 : ∀ i, w1.2.1 67 i = if i = (k : Int) then w.2.1 1 rr else w.2.1 67 i := fun i => by rw [← hw1]; rfl
          have xg : ∀ g, g ≠ 67 → w1.2.1 g = w.2.1 g := fun g hg => by rw [← hw1]; exact if_neg hg
          have xs : w1.1 = w.1 := by rw [← hw1]; rfl
          have xL : w1.2.2 = w.2.2 := by rw [← hw1]; rfl
          have xt : ∀ k, k ≤ 11 → w1.1 k = w.1 k ∧ w1.2.1 k = w.2.1 k := fun k hk => ⟨by rw [xs], xg k (by omega)⟩
          have xS : SameF w w1 := ⟨by rw [xs], xg 36 (by decide), xg 37 (by decide), by rw [xs], by rw [xs]⟩
          have xE : ExtT w w1 := ExtT.same xt xL xS
          have xT : TI w1 := TI_eq wT xt xL
          have xF : Fx fB w w1 := by rw [← hw1]; exact Fx_A (k := 67) rfl
          have etL := tL_pair wT l1 l2 (by rw [haa]; exact l3)
          rw [haa] at etL
          have eta : tS w1 a = tS w a := (t_same wT xT xE.1 xS l3 (by omega)).1
          have trr := t_pos wT hp.2.1 (show w.2.1 1 rr < w.1 8 by omega)
          have taa := t_pos wT l3 (show a < w.1 8 by omega)
          refine begin xT (wD.ext xE.1 xS) l3 (by rw [xs]; omega) (by rw [xs]; omega) (by rw [xs]; omega) (by rw [xs]; omega) (by rw [xs]; omega) (by rw [xs]; omega) (fun hbad => ?_) (fun x hx hxs hxt _ => ?_) (fun n2 b1 hp0 hnq b2 b3 bsy bcap bne => ?_)
          · refine ih (N - 1) _ _ _ _ (by omega) ⟨rfl, rfl, Or.inl ⟨rfl, ⟨xT, wE.tr hT xE, wF.tr xF, by rw [xs]; exact w61, by rw [xs]; exact w6, by rw [xs]; exact w11⟩, by rw [xs]; omega, ?_⟩⟩
            have h1 : 10000000 ≤ tS w (w.2.1 66 (k : Int)) := FrE.bad (w := w) wT (by rw [hrr]; exact l1) (by rw [hrr]; exact l2) d5 (Int.le_refl _) d11 (by rw [hrr, etL]; omega)
            have h2 := d6.bad wT ⟨t1, t2⟩ h1
            rw [d12, tSo] at h2
            omega
          · generalize hw2 : iI (iA w1 70 (w1.1 71) x) 71 (w1.1 71 + 1) = w2
            have y70 : ∀ i, w2.2.1 70 i = if i = b + j then x else w.2.1 70 i := fun i => by
              rw [← hw2]
              show (if i = w1.1 71 then x else w1.2.1 70 i) = _
              rw [xs, d4, xg 70 (by decide)]
            have yg : ∀ g, g ≠ 67 → g ≠ 70 → w2.2.1 g = w.2.1 g := fun g g1 g2 => by rw [← hw2]; exact (if_neg g2).trans (xg g g1)
            have y67 : ∀ i, w2.2.1 67 i = if i = (k : Int) then w.2.1 1 rr else w.2.1 67 i := fun i => by rw [← hw2]; exact x67 i
            have ys : ∀ k, k ≠ 71 → w2.1 k = w.1 k := fun k hk => by rw [← hw2]; exact (if_neg hk).trans (congrFun xs k)
            have y71 : w2.1 71 = b + j + 1 := by rw [← hw2]; show w1.1 71 + 1 = _; rw [xs, d4]
            have yL : w2.2.2 = w.2.2 := by rw [← hw2]; exact xL
            have yt : ∀ k, k ≤ 11 → w2.1 k = w.1 k ∧ w2.2.1 k = w.2.1 k := fun k hk => ⟨ys k (by omega), yg k (by omega) (by omega)⟩
            have yS : SameF w w2 := ⟨ys 35 (by decide), yg 36 (by decide) (by decide), yg 37 (by decide) (by decide), ys 57 (by decide), ys 58 (by decide)⟩
            have yE : ExtT w w2 := ExtT.same yt yL yS
            have yT : TI w2 := TI_eq wT yt yL
            have hxw : IsT w x := by
              have : ExtT w1 w := ExtT.same (fun k hk => ⟨(xt k hk).1.symm, (xt k hk).2.symm⟩) xL.symm ⟨xS.1.symm, xS.2.1.symm, xS.2.2.1.symm, xS.2.2.2.1.symm, xS.2.2.2.2.symm⟩
              exact hx.ext xT this
            have hxsz : sz w x = tS w a := by rw [← eta, ← hxs]; unfold sz; rw [xg 0 (by decide), xg 3 (by decide)]
            have hFr : FrE w2 k b (j + 1) 0 := by
              have e1 : sumB w2 b (j + 1) = sumB w b j + sz w x := by
                rw [sumB_snoc, sumB_ex yE (fun i hi => ⟨d5 i hi, by rw [y70, if_neg (by omega)]⟩), y70, if_pos rfl, yE.szx hxw]
              obtain ⟨g1, g2⟩ := d11
              have rr66 := wT.right_r t1 t2
              unfold FrE
              rw [yg 66 (by decide) (by decide), yg 1 (by decide) (by decide), y67, if_pos rfl, e1, (t_same wT yT yE.1 yS rr66.1 rr66.2).2, (t_same wT yT yE.1 yS t1 t2).1, (t_same wT yT yE.1 yS hp.2.1 (by omega)).2]
              rw [hrr, etL] at g1
              exact ⟨by omega, g2⟩
            have hFT : FrT w2 k b (j + 1) (j + 1) m' := by
              obtain ⟨g0, g1, g2, g3, g4⟩ := d13
              have hxr := hxw.r
              have hxt' : T1 w a x := hxt.ext xT (Ext_eq (fun k hk => ⟨(xt k hk).1.symm, (xt k hk).2.symm⟩) xL.symm) l3 (by rw [xs]; omega) hxr.1 (by rw [xs]; exact hxr.2)
              have ea : el w (w.2.1 1 (w.2.1 66 (k : Int))) j = a := by
                have := g4 0 (by omega)
                rw [hrr] at this
                rw [← haa]
                exact this.symm
              unfold FrT
              rw [yg 66 (by decide) (by decide), yg 1 (by decide) (by decide), yg 0 (by decide) (by decide), y67, if_pos rfl]
              refine ⟨g0, ?_, Nat.le_refl _, fun i hi => ?_, fun i hi => ?_⟩
              · rw [show j + 1 + m' = j + (m' + 1) from by omega]; exact g1.ext wT yE.1
              · rw [el_ext yE.1 g1 i (by omega), y70]
                have r := IsL.elr wT g1 i (by omega)
                by_cases e : i = j
                · subst e
                  rw [if_pos rfl, ea]
                  exact hxt'.ext wT yE.1 l3 (by omega) hxr.1 hxr.2
                · rw [if_neg (by omega)]
                  have q := (d5 i (by omega)).r
                  exact (g3 i (by omega)).ext wT yE.1 r.1 r.2 q.1 q.2
              · rw [el_ext yE.1 l4 i hi, el_ext yE.1 g1 (j + 1 + i) (by omega)]
                have := g4 (i + 1) (by omega)
                rw [hrr] at this
                rw [show j + 1 + i = j + (i + 1) from by omega]
                exact this
            have hL2 : wB w2 (w2.2.1 67 (k : Int)) = wB w (w.2.1 1 rr) := by
              rw [y67, if_pos rfl]
              exact (w_ext wT yT yE.1 hp.2.1 (by omega)).2
            refine ih (N - 2 * (wA w a).toNat) _ _ _ _ (by omega) ⟨rfl, rfl, Or.inr ⟨rfl, ⟨yT, wE.tr hT yE, wF.tr ?_, by rw [ys 61 (by decide)]; exact w61, by rw [ys 6 (by decide)]; exact w6, by rw [ys 11 (by decide)]; exact w11⟩, Or.inr ⟨k, b, p, q, n, m', j + 1, by rw [ys 69 (by decide)]; exact d1, ⟨?_, ?_, ?_, ?_, ?_, t6, by omega, ?_, ?_⟩, by omega, by rw [y71]; omega, fun i hi => ?_, ?_, ?_, ?_, hFr, by rw [yg 66 (by decide) (by decide)]; exact d12, hFT⟩⟩⟩
            · intro g hg
              have hg2 : g ≠ 67 ∧ g ≠ 70 ∧ g ≠ 71 := by simp [fB] at hg; omega
              exact ⟨ys g hg2.2.2, yg g hg2.1 hg2.2.1⟩
            · rw [yg 66 (by decide) (by decide)]; exact t1
            · rw [yg 66 (by decide) (by decide), ys 8 (by decide)]; exact t2
            · rw [yg 66 (by decide) (by decide), yg 0 (by decide) (by decide)]; exact t3
            · rw [yg 66 (by decide) (by decide), yg 0 (by decide) (by decide), ys 8 (by decide)]; exact t4
            · rw [yg 66 (by decide) (by decide), yg 0 (by decide) (by decide)]; exact yS.ar t5
            · rw [y67, if_pos rfl]; exact l4.ext wT yE.1
            · rw [yg 68 (by decide) (by decide)]; exact t10
            · rw [y70]
              split
              · exact hxw.ext wT yE
              · next hne2 => exact (d5 i (by omega)).ext wT yE
            · exact d6.ext wT yT yE yS (fun i hi => by rw [yg 66 (by decide) (by decide)]) ⟨t1, t2⟩ (fun i hi => ⟨by rw [y67, if_neg (by omega)], by rw [yg 68 (by decide) (by decide)]⟩) (fun i i0 i1 => by rw [y70, if_neg (by omega)])
            · rw [hL2, ys 8 (by decide)]; omega
            · rw [hL2]; omega
          · rw [xg 0 (by decide)] at hp0 bsy
            have hnq' : ¬ Quo w a := by
              unfold Quo at hnq ⊢
              rw [xg 0 (by decide), xg 1 (by decide)] at hnq
              exact hnq
            have b2' : Ar w (w.2.1 0 a) n2 := by
              rw [xg 0 (by decide)] at b2
              exact SameF.ar (u := w1) (v := w) ⟨xS.1.symm, xS.2.1.symm, xS.2.2.1.symm, xS.2.2.2.1.symm, xS.2.2.2.2.symm⟩ b2
            have b3' : IsL w (w.2.1 1 a) n2 := by
              have : Ext w1 w := Ext_eq (fun k hk => ⟨(xt k hk).1.symm, (xt k hk).2.symm⟩) xL.symm
              rw [xg 1 (by decide)] at b3
              exact b3.ext xT this
            have hpa := wT.pair l3 (by omega) hp0
            have hs3 := wB_len wT b3'
            have ewa := wA_pair l3 hp0 hnq'
            have ewb := wB_pair wT l3 (by omega) hp0
            have ewf : wA w (w.2.1 0 a) = 1 := wA_atom hp0 (by omega)
            generalize hw2 : uOpen w1 a = w2
            have y66 : ∀ i, w2.2.1 66 i = if i = (k : Int) + 1 then a else w.2.1 66 i := fun i => by
              rw [← hw2]
              show (if i = w1.1 69 then a else w1.2.1 66 i) = _
              rw [xs, d1, xg 66 (by decide)]
            have y67 : ∀ i, w2.2.1 67 i = if i = (k : Int) + 1 then w.2.1 1 a else if i = (k : Int) then w.2.1 1 rr else w.2.1 67 i := fun i => by
              rw [← hw2]
              show (if i = w1.1 69 then w1.2.1 1 a else w1.2.1 67 i) = _
              rw [xs, d1, xg 1 (by decide), x67]
            have y68 : ∀ i, w2.2.1 68 i = if i = (k : Int) + 1 then b + j else w.2.1 68 i := fun i => by
              rw [← hw2]
              show (if i = w1.1 69 then w1.1 71 else w1.2.1 68 i) = _
              rw [xs, d1, d4, xg 68 (by decide)]
            have yg : ∀ g, g ≠ 66 → g ≠ 67 → g ≠ 68 → w2.2.1 g = w.2.1 g := fun g g1 g2 g3 => by rw [← hw2]; exact (((if_neg g3).trans (if_neg g2)).trans (if_neg g1)).trans (xg g g2)
            have ys : ∀ k, k ≠ 69 → w2.1 k = w.1 k := fun k hk => by rw [← hw2]; exact (if_neg hk).trans (congrFun xs k)
            have y69 : w2.1 69 = k + 1 + 1 := by rw [← hw2]; show w1.1 69 + 1 = _; rw [xs, d1]
            have yL : w2.2.2 = w.2.2 := by rw [← hw2]; exact xL
            have yt : ∀ k, k ≤ 11 → w2.1 k = w.1 k ∧ w2.2.1 k = w.2.1 k := fun k hk => ⟨ys k (by omega), yg k (by omega) (by omega) (by omega)⟩
            have yS : SameF w w2 := ⟨ys 35 (by decide), yg 36 (by decide) (by decide) (by decide), yg 37 (by decide) (by decide) (by decide), ys 57 (by decide), ys 58 (by decide)⟩
            have yE : ExtT w w2 := ExtT.same yt yL yS
            have yT : TI w2 := TI_eq wT yt yL
            have y70 : w2.2.1 70 = w.2.1 70 := yg 70 (by decide) (by decide) (by decide)
            have e67k : w2.2.1 67 (k : Int) = w.2.1 1 rr := by rw [y67, if_neg (by omega), if_pos rfl]
            have e67n : w2.2.1 67 ((k + 1 : Nat) : Int) = w.2.1 1 a := by rw [y67, if_pos (by omega)]
            have hLk : wB w2 (w.2.1 1 rr) = wB w (w.2.1 1 rr) := (w_ext wT yT yE.1 hp.2.1 (by omega)).2
            have hLn : wB w2 (w.2.1 1 a) = wB w (w.2.1 1 a) := (w_ext wT yT yE.1 hpa.2.1 (by omega)).2
            have e66k : w2.2.1 66 (k : Int) = w.2.1 66 (k : Int) := by rw [y66, if_neg (by omega)]
            have e66n : w2.2.1 66 ((k + 1 : Nat) : Int) = a := by rw [y66, if_pos (by omega)]
            have tra := t_same wT yT yE.1 yS hpa.2.1 (show w.2.1 1 a < w.1 8 by omega)
            have hFrk : FrE w2 k b j (tS w2 (w2.2.1 66 ((k + 1 : Nat) : Int))) := by
              obtain ⟨g1, g2⟩ := d11
              have rr66 := wT.right_r t1 t2
              rw [e66n]
              unfold FrE
              rw [e66k, e67k, yg 1 (by decide) (by decide) (by decide), sumB_ex yE (fun i hi => ⟨d5 i hi, by rw [y70]⟩), (t_same wT yT yE.1 yS rr66.1 rr66.2).2, (t_same wT yT yE.1 yS t1 t2).1, (t_same wT yT yE.1 yS hp.2.1 (by omega)).2, (t_same wT yT yE.1 yS l3 (by omega)).1]
              rw [hrr, etL] at g1
              exact ⟨by omega, g2⟩
            have hFrn : FrE w2 ((k + 1 : Nat) : Int) (b + j) 0 0 := by
              have bc2 : tS w a = capT (tL w (w.2.1 1 a)) := by
                rw [eta, xg 1 (by decide), (t_same wT xT xE.1 xS hpa.2.1 (show w.2.1 1 a < w.1 8 by omega)).2] at bcap
                exact bcap
              unfold FrE
              rw [e66n, e67n, yg 1 (by decide) (by decide) (by decide), tra.2, (t_same wT yT yE.1 yS l3 (by omega)).1]
              exact ⟨by show _ = 0 + 0 + _; omega, bc2⟩
            have hFTk : FrT w2 k b j (j + 1) m' ∧ w2.2.1 66 ((k + 1 : Nat) : Int) = el w2 (w2.2.1 1 (w2.2.1 66 (k : Int))) j := by
              obtain ⟨g0, g1, g2, g3, g4⟩ := d13
              have ea : el w (w.2.1 1 (w.2.1 66 (k : Int))) j = a := by
                have := g4 0 (by omega)
                rw [hrr] at this
                rw [← haa]
                exact this.symm
              unfold FrT
              rw [e66k, e67k, e66n, yg 1 (by decide) (by decide) (by decide), yg 0 (by decide) (by decide) (by decide)]
              refine ⟨⟨g0, ?_, by omega, fun i hi => ?_, fun i hi => ?_⟩, ?_⟩
              · rw [show j + 1 + m' = j + (m' + 1) from by omega]; exact g1.ext wT yE.1
              · rw [el_ext yE.1 g1 i (by omega), y70]
                have r := IsL.elr wT g1 i (by omega)
                have q := (d5 i (by omega)).r
                exact (g3 i (by omega)).ext wT yE.1 r.1 r.2 q.1 q.2
              · rw [el_ext yE.1 l4 i hi, el_ext yE.1 g1 (j + 1 + i) (by omega)]
                have := g4 (i + 1) (by omega)
                rw [hrr] at this
                rw [show j + 1 + i = j + (i + 1) from by omega]
                exact this
              · rw [el_ext yE.1 g1 j (by omega)]; exact ea.symm
            have hFTn : FrT w2 ((k + 1 : Nat) : Int) (b + j) 0 0 n2 := by
              unfold FrT
              rw [e66n, e67n, yg 1 (by decide) (by decide) (by decide), yg 0 (by decide) (by decide) (by decide)]
              rw [xg 0 (by decide)] at bne
              exact ⟨bne, by rw [show 0 + n2 = n2 from by omega]; exact b3'.ext wT yE.1, Nat.le_refl _, fun i hi => by omega, fun i hi => by rw [show 0 + i = i from by omega]⟩
            have hfr2 : Gr w2 (k + 1) (b + j) (p + (n + 1) + (wB w (w.2.1 1 rr) - m')) (q + 1 + 2 * wB w (w.2.1 1 rr)) := by
              refine ⟨b, p, q, n, m', j, ⟨?_, ?_, ?_, ?_, ?_, t6, by omega, ?_, ?_⟩, by omega, rfl, fun i hi => ?_, by rw [e67k, hLk], by rw [e67k, hLk], hFrk, hFTk, d6.ext wT yT yE yS (fun i hi => by rw [y66, if_neg (by omega)]) ⟨t1, t2⟩ (fun i hi => ⟨by rw [y67, if_neg (by omega), if_neg (by omega)], by rw [y68, if_neg (by omega)]⟩) (fun i i0 i1 => by rw [y70])⟩
              · rw [y66, if_neg (by omega)]; exact t1
              · rw [y66, if_neg (by omega), ys 8 (by decide)]; exact t2
              · rw [y66, if_neg (by omega), yg 0 (by decide) (by decide) (by decide)]; exact t3
              · rw [y66, if_neg (by omega), yg 0 (by decide) (by decide) (by decide), ys 8 (by decide)]; exact t4
              · rw [y66, if_neg (by omega), yg 0 (by decide) (by decide) (by decide)]; exact yS.ar t5
              · rw [e67k]; exact l4.ext wT yE.1
              · rw [y68, if_neg (by omega)]; exact t10
              · rw [y70]; exact (d5 i hi).ext wT yE
            refine ih (N - 5) _ _ _ _ (by omega) ⟨rfl, rfl, Or.inr ⟨rfl, ⟨yT, wE.tr hT yE, wF.tr ?_, by rw [ys 61 (by decide)]; exact w61, by rw [ys 6 (by decide)]; exact w6, by rw [ys 11 (by decide)]; exact w11⟩, Or.inr ⟨k + 1, b + j, _, _, n2, n2, 0, by rw [y69]; omega, ⟨?_, ?_, ?_, ?_, ?_, b1, Nat.le_refl _, ?_, ?_⟩, by omega, by rw [ys 71 (by decide)]; omega, fun i hi => by omega, hfr2, ?_, ?_, hFrn, by rw [y66, if_neg (by omega)]; exact d12, hFTn⟩⟩⟩
            · intro g hg
              have hg2 : g ≠ 66 ∧ g ≠ 67 ∧ g ≠ 68 ∧ g ≠ 69 := by simp [fB] at hg; omega
              exact ⟨ys g hg2.2.2.2, yg g hg2.1 hg2.2.1 hg2.2.2.1⟩
            · rw [y66, if_pos (by omega)]; exact l3
            · rw [y66, if_pos (by omega), ys 8 (by decide)]; omega
            · rw [y66, if_pos (by omega), yg 0 (by decide) (by decide) (by decide)]; exact hp0
            · rw [y66, if_pos (by omega), yg 0 (by decide) (by decide) (by decide), ys 8 (by decide)]; omega
            · rw [y66, if_pos (by omega), yg 0 (by decide) (by decide) (by decide)]; exact yS.ar b2'
            · rw [e67n]; exact b3'.ext wT yE.1
            · rw [y68, if_pos (by omega)]
            · rw [e67n, hLn, ys 8 (by decide)]; omega
            · rw [e67n, hLn]; omega
        · have hz : w.2.1 67 (k : Int) = 0 := by omega
          have em : m = 0 := by
            cases m with
            | zero => rfl
            | succ m' =>
              have := t8.2.2.1
              rw [hz] at this
              have := wT.2.2.2.2.2.2.2.2.1 0 (by decide) (by decide)
              omega
          subst em
          have ej : j = n := by omega
          subst ej
          have es0 : wB w (w.2.1 67 (k : Int)) = 0 := by rw [hz]; exact wB_nil wT
          rw [es0] at d9 d10
          refine rd_i fun _ => ov_i (by omega) (by omega) (sw_i (bd_i (by omega) (by omega) (rd_i fun _ => bd_i t1 (show w.2.1 66 (k : Int) < 452000 by omega) (rd_i fun _ => bd_i (by omega) (by omega) (rd_i fun _ => ?_)))))
          show w_callFrom (w.2.1 0 (w.2.1 66 (k : Int))) (w.2.1 68 (k : Int)) _ (iI w 69 (w.1 69 - 1))
          rw [t10]
          generalize hw1 : iI w 69 (w.1 69 - 1) = w1
          have x2s : w1.2 = w.2 := by rw [← hw1]; rfl
          have xs : ∀ k, k ≠ 69 → w1.1 k = w.1 k := fun k hk => by rw [← hw1]; exact if_neg hk
          have x69 : w1.1 69 = k := by rw [← hw1]; show w.1 69 - 1 = _; omega
          have xt : ∀ k, k ≤ 11 → w1.1 k = w.1 k ∧ w1.2.1 k = w.2.1 k := fun k hk => ⟨xs k (by omega), by rw [x2s]⟩
          have xS : SameF w w1 := ⟨xs 35 (by decide), by rw [x2s], by rw [x2s], xs 57 (by decide), xs 58 (by decide)⟩
          have xE : ExtT w w1 := ExtT.same xt (by rw [x2s]) xS
          have xT : TI w1 := TI_eq wT xt (by rw [x2s])
          have xD : DI w1 := wD.ext xE.1 xS
          have x70 : w1.2.1 70 = w.2.1 70 := by rw [x2s]
          refine g_callFrom (n := j) xT xD (by omega) (by rw [xs 71 (by decide)]; exact d4) (by rw [xs 71 (by decide)]; omega) t6 (fun i hi => by rw [x70]; exact (d5 i hi).ext wT xE) t3 (by rw [xs 8 (by decide)]; exact t4) (xS.ar t5) (by rw [xs 8 (by decide)]; omega) fun t z hz2 => ?_
          obtain ⟨z1, z2, z3, z4, z5, z6, z7, z8, z9, z10, z11, z12, z13⟩ := hz2
          have zz : ∀ g, 12 ≤ g → g ≠ 69 → z.1 g = w.1 g ∧ z.2.1 g = w.2.1 g := fun g hg g1 => by
            have := z3 g (show fT g = false by simp [fT]; omega)
            exact ⟨this.1.trans (xs g g1), this.2.trans (by rw [x2s])⟩
          have za : ∀ g, 12 ≤ g → z.2.1 g = w.2.1 g := fun g hg => (z3 g (show fT g = false by simp [fT]; omega)).2.trans (by rw [x2s])
          have zE : ExtT w z := xE.tr wT z2
          rw [za 68 (by decide), t10]
          refine bd_i (by omega) (by omega) (rd_i fun _ => sw_i ?_)
          refine s_build (u := iI z 71 b) hfr.1 (show b < 2400 by omega) ?_
          show R 0 0 1 (iI (iA (iI z 71 b) 70 b t) 71 (b + 1))
          generalize hw2 : iI (iA (iI z 71 b) 70 b t) 71 (b + 1) = w2
          have y70 : ∀ i, w2.2.1 70 i = if i = b then t else w.2.1 70 i := fun i => by
            rw [← hw2]
            show (if i = b then t else z.2.1 70 i) = _
            rw [za 70 (by decide)]
          have yg : ∀ g, g ≠ 70 → w2.2.1 g = z.2.1 g := fun g hg => by rw [← hw2]; exact if_neg hg
          have ys : ∀ g, g ≠ 71 → w2.1 g = z.1 g := fun g hg => by rw [← hw2]; exact (if_neg hg).trans (if_neg hg)
          have y71 : w2.1 71 = b + 1 := by rw [← hw2]; rfl
          have yL : w2.2.2 = z.2.2 := by rw [← hw2]; rfl
          have yt : ∀ k, k ≤ 11 → w2.1 k = z.1 k ∧ w2.2.1 k = z.2.1 k := fun k hk => ⟨ys k (by omega), yg k (by omega)⟩
          have yS : SameF z w2 := ⟨ys 35 (by decide), yg 36 (by decide), yg 37 (by decide), ys 57 (by decide), ys 58 (by decide)⟩
          have yE0 : ExtT z w2 := ExtT.same yt yL yS
          have yE : ExtT w w2 := zE.tr wT yE0
          have yT : TI w2 := TI_eq z1 yt yL
          have y8 : w2.1 8 ≤ w.1 8 + j + 1 := by rw [ys 8 (by decide), ← xs 8 (by decide)]; exact z4
          have y8b : w.1 8 ≤ w2.1 8 := yE.1.1.1
          have y69 : w2.1 69 = k := by rw [ys 69 (by decide), (z3 69 rfl).1]; exact x69
          have ht2 : IsT w2 t := z7.ext z1 yE0
          have hF : Fx fB w w2 := by
            intro g hg
            have hg2 : ¬ g ≤ 11 ∧ g ≠ 69 ∧ g ≠ 70 ∧ g ≠ 71 := by simp [fB] at hg; omega
            rw [ys g hg2.2.2.2, yg g hg2.2.2.1]
            exact zz g (by omega) hg2.2.1
          have hts : sz w2 t = tS w (w.2.1 66 (k : Int)) := by
            obtain ⟨g1, g2⟩ := d11
            have h1 := sumB_r wT d5
            have e0 : tL w (w.2.1 67 (k : Int)) = 0 := by rw [hz]; exact tL_nil (Int.le_refl _) (by have := wT.2.2.2.2.2.2.2.2.1 0 (by decide) (by decide); omega)
            have e1 : sumB w1 b j = sumB w b j := sumB_ex xE (fun i hi => ⟨d5 i hi, by rw [x70]⟩)
            rw [yE0.szx z7, z9, g2, g1, e0, e1]
            unfold capT
            rw [if_neg (by omega), show sumB w b j + 0 + 0 = sumB w b j from by omega]
          have common : BI0 u w2 := ⟨yT, wE.tr hT yE, wF.tr hF, by rw [ys 61 (by decide), (zz 61 (by decide) (by decide)).1]; exact w61, by rw [ys 6 (by decide), z5, xs 6 (by decide)]; exact w6, by rw [ys 11 (by decide), z6, xs 11 (by decide)]; exact w11⟩
          have g66 : w2.2.1 66 = w.2.1 66 := by rw [yg 66 (by decide), za 66 (by decide)]
          have hT2 : T2 w2 (w.2.1 66 (k : Int)) t := by
            obtain ⟨g0, g1, g2, g3, g4⟩ := d13
            have e6 := yE.1.2.1 _ t1 t2
            have zr := z7.r
            have ez := yE0.1.2.1 t zr.1 zr.2
            refine ⟨Or.inr (Or.inr ⟨by rw [e6.1]; exact t3, by rw [e6.1]; exact g0, ?_⟩), fun _ => ⟨j, ?_, ?_, fun i hi => ?_⟩⟩
            · rw [ez.1, e6.1]; exact z8
            · rw [e6.2.1]; exact g1.ext wT yE.1
            · rw [ez.2.1]; exact z11.ext z1 yE0.1
            · rw [e6.2.1, ez.2.1, el_ext yE.1 g1 i (by omega), el_ext yE0.1 z11 i hi, z12 i hi, x70]
              have r := IsL.elr wT g1 i (by omega)
              have q := (d5 i hi).r
              exact (g3 i hi).ext wT yE.1 r.1 r.2 q.1 q.2
          cases k with
          | zero =>
            obtain ⟨f1, f2, f3⟩ := d6
            refine ih (N - 1) _ _ _ _ (by omega) ⟨rfl, rfl, Or.inr ⟨rfl, common, Or.inl ⟨by rw [y69]; rfl, by rw [y71]; omega, ?_, by omega, ?_, ?_⟩⟩⟩
            · rw [y70, if_pos (by omega)]; exact ht2
            · rw [y70, if_pos (by omega), hts, show (((0 : Nat) : Nat) : Int) = 0 from rfl, d12]; exact tSo
            · rw [y70, if_pos (by omega)]
              rw [show (((0 : Nat) : Nat) : Int) = 0 from rfl, d12] at hT2
              exact hT2
          | succ k =>
            obtain ⟨b', p', q', n', m', j', f1, f2, f3, f4, f5, f6, f9, ⟨f10, f11⟩, f8⟩ := d6
            have fr' := f8.r wT
            have g67 : w2.2.1 67 = w.2.1 67 := by rw [yg 67 (by decide), za 67 (by decide)]
            have g68 : w2.2.1 68 = w.2.1 68 := by rw [yg 68 (by decide), za 68 (by decide)]
            have hl := f1.2.2.2.2.2.2.2.1.r (by have := wT.1; omega)
            have hLk : wB w2 (w.2.1 67 (k : Int)) = wB w (w.2.1 67 (k : Int)) := (w_ext wT yT yE.1 hl.1 hl.2).2
            have hSwy : SameF w w2 := SameF.B hF
            have hFr : FrE w2 k b' (j' + 1) 0 := by
              have e1 : sumB w2 b' (j' + 1) = sumB w b' j' + sz w2 t := by
                rw [sumB_snoc, sumB_ex yE (fun i hi => ⟨f4 i hi, by rw [y70, if_neg (by omega)]⟩), y70, if_pos (by omega)]
              obtain ⟨g1, g2⟩ := f9
              have rr66 := wT.right_r f1.1 f1.2.1
              unfold FrE
              rw [g66, g67, (yE.1.2.1 _ f1.1 f1.2.1).2.1, e1, hts, (t_same wT yT yE.1 hSwy rr66.1 rr66.2).2, (t_same wT yT yE.1 hSwy f1.1 f1.2.1).1, (t_same wT yT yE.1 hSwy hl.1 hl.2).2]
              exact ⟨by omega, g2⟩
            have hFT : FrT w2 k b' (j' + 1) (j' + 1) m' := by
              obtain ⟨g0, g1, g2, g3, g4⟩ := f10
              have e6 := yE.1.2.1 _ f1.1 f1.2.1
              unfold FrT
              rw [g66, g67, e6.1, e6.2.1]
              refine ⟨g0, g1.ext wT yE.1, Nat.le_refl _, fun i hi => ?_, fun i hi => ?_⟩
              · rw [el_ext yE.1 g1 i (by omega), y70]
                have r := IsL.elr wT g1 i (by omega)
                by_cases e : i = j'
                · subst e
                  rw [if_pos (by omega), ← f11]
                  exact hT2.1
                · rw [if_neg (by omega)]
                  have q := (f4 i (by omega)).r
                  exact (g3 i (by omega)).ext wT yE.1 r.1 r.2 q.1 q.2
              · rw [el_ext yE.1 f1.2.2.2.2.2.2.2.1 i hi, el_ext yE.1 g1 (j' + 1 + i) (by omega)]; exact g4 i hi
            refine ih (N - 1) _ _ _ _ (by omega) ⟨rfl, rfl, Or.inr ⟨rfl, common, Or.inr ⟨k, b', p', q', n', m', j' + 1, by rw [y69]; omega, f1.ext wT yE (by rw [g66]) (by rw [g67]) (by rw [g68]), by omega, by rw [y71]; omega, fun i hi => ?_, f8.ext wT yT yE hSwy (fun i hi => by rw [g66]) ⟨f1.1, f1.2.1⟩ (fun i hi => ⟨by rw [g67], by rw [g68]⟩) (fun i i0 i1 => by rw [y70, if_neg (by omega)]), ?_, ?_, hFr, by rw [g66]; exact d12, hFT⟩⟩⟩
            · rw [y70]
              split
              · exact ht2
              · exact (f4 i (by omega)).ext wT yE
            · rw [g67, hLk]; omega
            · rw [g67, hLk]; omega
  have bi0 : BI0 u u := ⟨hT, ExtT.rf u, Fx.rf _ u, rfl, rfl, rfl⟩
  unfold w_termOf
  refine rd_i fun _ => rd_i fun _ => ?_
  rw [hc, hb]
  refine begin hT hD o0 o1 (by omega) (by omega) (by omega) (by omega) (by omega) (fun hbad => main 0 0 u (Or.inl ⟨rfl, bi0, by omega, by omega⟩)) (fun x hx hxs hxt hxn => ?_) (fun n2 b1 hp0 hnq b2 b3 bsy bcap bne => ?_)
  · generalize hw2 : iI (iA u 70 (u.1 71) x) 71 (u.1 71 + 1) = w2
    have y70 : ∀ i, w2.2.1 70 i = if i = 0 then x else u.2.1 70 i := fun i => by
      rw [← hw2]
      show (if i = u.1 71 then x else u.2.1 70 i) = _
      rw [hb]
    have yg : ∀ g, g ≠ 70 → w2.2.1 g = u.2.1 g := fun g hg => by rw [← hw2]; exact if_neg hg
    have ys : ∀ k, k ≠ 71 → w2.1 k = u.1 k := fun k hk => by rw [← hw2]; exact if_neg hk
    have y71 : w2.1 71 = 1 := by rw [← hw2]; show u.1 71 + 1 = 1; omega
    have yL : w2.2.2 = u.2.2 := by rw [← hw2]; rfl
    have yt : ∀ k, k ≤ 11 → w2.1 k = u.1 k ∧ w2.2.1 k = u.2.1 k := fun k hk => ⟨ys k (by omega), yg k (by omega)⟩
    have yS : SameF u w2 := ⟨ys 35 (by decide), yg 36 (by decide), yg 37 (by decide), ys 57 (by decide), ys 58 (by decide)⟩
    have yE : ExtT u w2 := ExtT.same yt yL yS
    refine main 0 1 w2 (Or.inr ⟨rfl, ⟨TI_eq hT yt yL, yE, ?_, ys 61 (by decide), ys 6 (by decide), ys 11 (by decide)⟩, Or.inl ⟨(ys 69 (by decide)).trans hc, y71, ?_, by rw [ys 8 (by decide)]; omega, by rw [y70, if_pos rfl, yE.szx hx]; exact hxs, by rw [y70, if_pos rfl]; exact T2.ext hT yE.1 o0 o1 hx.r.1 hx.r.2 ⟨hxt, fun z => absurd z hxn⟩⟩⟩)
    · rw [← hw2]; exact (Fx_A (k := 70) rfl).tr (Fx_I (k := 71) rfl)
    · rw [y70, if_pos rfl]; exact hx.ext hT yE
  · have hpa := hT.pair o0 o1 hp0
    have hs3 := wB_len hT b3
    have ewa := wA_pair o0 hp0 hnq
    have ewb := wB_pair hT o0 o1 hp0
    have ewf : wA u (u.2.1 0 o) = 1 := wA_atom hp0 (by omega)
    generalize hw2 : uOpen u o = w2
    have y66 : ∀ i, w2.2.1 66 i = if i = 0 then o else u.2.1 66 i := fun i => by
      rw [← hw2]
      show (if i = u.1 69 then o else u.2.1 66 i) = _
      rw [hc]
    have y67 : ∀ i, w2.2.1 67 i = if i = 0 then u.2.1 1 o else u.2.1 67 i := fun i => by
      rw [← hw2]
      show (if i = u.1 69 then u.2.1 1 o else u.2.1 67 i) = _
      rw [hc]
    have y68 : ∀ i, w2.2.1 68 i = if i = 0 then 0 else u.2.1 68 i := fun i => by
      rw [← hw2]
      show (if i = u.1 69 then u.1 71 else u.2.1 68 i) = _
      rw [hc, hb]
    have yg : ∀ g, g ≠ 66 → g ≠ 67 → g ≠ 68 → w2.2.1 g = u.2.1 g := fun g g1 g2 g3 => by rw [← hw2]; exact ((if_neg g3).trans (if_neg g2)).trans (if_neg g1)
    have ys : ∀ k, k ≠ 69 → w2.1 k = u.1 k := fun k hk => by rw [← hw2]; exact if_neg hk
    have y69 : w2.1 69 = 1 := by rw [← hw2]; show u.1 69 + 1 = 1; omega
    have yL : w2.2.2 = u.2.2 := by rw [← hw2]; rfl
    have yt : ∀ k, k ≤ 11 → w2.1 k = u.1 k ∧ w2.2.1 k = u.2.1 k := fun k hk => ⟨ys k (by omega), yg k (by omega) (by omega) (by omega)⟩
    have yS : SameF u w2 := ⟨ys 35 (by decide), yg 36 (by decide) (by decide) (by decide), yg 37 (by decide) (by decide) (by decide), ys 57 (by decide), ys 58 (by decide)⟩
    have yE : ExtT u w2 := ExtT.same yt yL yS
    have yT : TI w2 := TI_eq hT yt yL
    have e67 : w2.2.1 67 ((0 : Nat) : Int) = u.2.1 1 o := by rw [y67, if_pos (by omega)]
    have hLn : wB w2 (u.2.1 1 o) = wB u (u.2.1 1 o) := (w_ext hT yT yE.1 hpa.2.1 (by omega)).2
    refine main (1 + 2 * wB u (u.2.1 1 o)).toNat 1 w2 (Or.inr ⟨rfl, ⟨yT, yE, ?_, ys 61 (by decide), ys 6 (by decide), ys 11 (by decide)⟩, Or.inr ⟨0, 0, 0, 0, n2, n2, 0, by rw [y69]; rfl, ⟨?_, ?_, ?_, ?_, ?_, b1, Nat.le_refl _, ?_, ?_⟩, by omega, by rw [ys 71 (by decide)]; omega, fun i hi => by omega, ⟨rfl, rfl, rfl⟩, ?_, ?_, ?_, by rw [y66, if_pos rfl], ?_⟩⟩)
    · rw [← hw2]; exact (((Fx_A (k := 66) rfl).tr (Fx_A (k := 67) rfl)).tr (Fx_A (k := 68) rfl)).tr (Fx_I (k := 69) rfl)
    · rw [y66, if_pos (by omega)]; exact o0
    · rw [y66, if_pos (by omega), ys 8 (by decide)]; exact o1
    · rw [y66, if_pos (by omega), yg 0 (by decide) (by decide) (by decide)]; exact hp0
    · rw [y66, if_pos (by omega), yg 0 (by decide) (by decide) (by decide), ys 8 (by decide)]; omega
    · rw [y66, if_pos (by omega), yg 0 (by decide) (by decide) (by decide)]; exact yS.ar b2
    · rw [e67]; exact b3.ext hT yE.1
    · rw [y68, if_pos (by omega)]
    · rw [e67, hLn, ys 8 (by decide)]; omega
    · rw [e67, hLn]; omega
    · have e66 : w2.2.1 66 ((0 : Nat) : Int) = o := by rw [y66, if_pos (by omega)]
      unfold FrE
      rw [e66, e67, yg 1 (by decide) (by decide) (by decide), (t_same hT yT yE.1 yS hpa.2.1 (by omega)).2, (t_same hT yT yE.1 yS o0 o1).1]
      exact ⟨by show _ = 0 + 0 + _; omega, bcap⟩
    · have e66 : w2.2.1 66 ((0 : Nat) : Int) = o := by rw [y66, if_pos (by omega)]
      unfold FrT
      rw [e66, e67, yg 1 (by decide) (by decide) (by decide), yg 0 (by decide) (by decide) (by decide)]
      exact ⟨bne, by rw [show 0 + n2 = n2 from by omega]; exact b3.ext hT yE.1, Nat.le_refl _, fun i hi => by omega, fun i hi => by rw [show 0 + i = i from by omega]⟩
