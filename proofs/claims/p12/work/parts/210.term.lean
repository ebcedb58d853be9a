/-! lists and terms in the table -/
def IsL (u : iST) : Int → Nat → Prop
  | l, 0 => l = 0
  | l, n + 1 => 0 ≤ l ∧ l < u.1 8 ∧ 0 ≤ u.2.1 0 l ∧ IsL u (u.2.1 1 l) n
def AllE (u : iST) (P : Int → Prop) : Int → Nat → Prop
  | _, 0 => True
  | l, n + 1 => P (u.2.1 0 l) ∧ AllE u P (u.2.1 1 l) n
def sz (u : iST) (x : Int) : Int := if 0 ≤ u.2.1 0 x ∧ u.2.1 0 x ≠ 2 then u.2.1 3 x else 1
def sumS (u : iST) : Int → Nat → Int
  | _, 0 => 0
  | l, n + 1 => sz u (u.2.1 0 l) + sumS u (u.2.1 1 l) n
def el (u : iST) : Int → Nat → Int
  | l, 0 => u.2.1 0 l
  | l, i + 1 => el u (u.2.1 1 l) i
def capS (x : Int) : Int := if 30000 < x then 30000 else x
/-- what functionOf answers -/
def FnOf (u : iST) (f r : Int) : Prop := (3 ≤ f ∧ f ≤ 16 ∧ r = f) ∨ (¬ (3 ≤ f ∧ f ≤ 16) ∧ f = u.1 57 ∧ r = 99) ∨ (¬ (3 ≤ f ∧ f ≤ 16) ∧ f ≠ u.1 57 ∧ ∃ d, 0 ≤ d ∧ d < u.1 35 ∧ u.2.1 36 d = f ∧ (∀ e, 0 ≤ e → e < d → u.2.1 36 e ≠ f) ∧ r = 100 + d) ∨ (¬ (3 ≤ f ∧ f ≤ 16) ∧ f ≠ u.1 57 ∧ (∀ e, 0 ≤ e → e < u.1 35 → u.2.1 36 e ≠ f) ∧ r = -1)
def Many (u : iST) (r : Int) : Int := if r = 3 then 3 else if r ≤ 9 then 2 else if r ≤ 16 then 1 else if r = 99 then u.1 58 else u.2.1 37 (r - 100)
/-- f is a function of n terms -/
def Ar (u : iST) (f : Int) (n : Nat) : Prop := ∃ r, FnOf u f r ∧ r ≠ -1 ∧ Many u r = n
def TStep (u : iST) (G : Int → Prop) (x : Int) : Prop := 0 ≤ x ∧ x < u.1 8 ∧ (u.2.1 0 x < 0 ∨ Quo u x ∨ (0 ≤ u.2.1 0 x ∧ u.2.1 0 x ≠ 2 ∧ ∃ n : Nat, n ≤ 6 ∧ Ar u (u.2.1 0 x) n ∧ IsL u (u.2.1 1 x) n ∧ AllE u G (u.2.1 1 x) n ∧ u.2.1 3 x = capS (1 + sumS u (u.2.1 1 x) n)))
def IsT (u : iST) (o : Int) : Prop := ∃ G : Int → Prop, (∀ x, G x → TStep u G x) ∧ G o
theorem AllE.imp {u : iST} {P Q : Int → Prop} (h : ∀ x, P x → Q x) : ∀ {n : Nat} {l : Int}, AllE u P l n → AllE u Q l n
  | 0, _, _ => trivial
  | n + 1, _, ⟨a, b⟩ => ⟨h _ a, AllE.imp h b⟩
theorem TStep.imp {u : iST} {P Q : Int → Prop} (h : ∀ x, P x → Q x) {x : Int} (a : TStep u P x) : TStep u Q x := by
  obtain ⟨a0, a1, a2⟩ := a
  refine ⟨a0, a1, ?_⟩
  rcases a2 with a2 | a2 | ⟨b1, b2, n, b3, b4, b5, b6, b7⟩
  · exact Or.inl a2
  · exact Or.inr (Or.inl a2)
  · exact Or.inr (Or.inr ⟨b1, b2, n, b3, b4, b5, b6.imp h, b7⟩)
theorem IsT.step {u : iST} {o : Int} (h : IsT u o) : TStep u (IsT u) o := by
  obtain ⟨G, h1, h2⟩ := h
  exact (h1 o h2).imp (fun x hx => ⟨G, h1, hx⟩)
theorem IsT.mk {u : iST} {o : Int} (h : TStep u (IsT u) o) : IsT u o := ⟨fun x => IsT u x ∨ x = o, fun x hx => by
  rcases hx with hx | rfl
  · exact hx.step.imp (fun y hy => Or.inl hy)
  · exact h.imp (fun y hy => Or.inl hy), Or.inr rfl⟩
theorem IsT.r {u : iST} {o : Int} (h : IsT u o) : 0 ≤ o ∧ o < u.1 8 := ⟨h.step.1, h.step.2.1⟩
theorem IsL.r {u : iST} {l : Int} {n : Nat} (h : IsL u l n) (h8 : 0 < u.1 8) : 0 ≤ l ∧ l < u.1 8 := by
  cases n with
  | zero => have h : l = 0 := h; omega
  | succ n => exact ⟨h.1, h.2.1⟩
theorem IsT.szr {u : iST} (hT : TI u) : ∀ {o : Int}, IsT u o → 1 ≤ sz u o ∧ sz u o ≤ 30000 := by
  have key : ∀ (m : Nat) (o : Int), o < m → IsT u o → 1 ≤ sz u o ∧ sz u o ≤ 30000 := by
    intro m
    induction m with
    | zero => intro o hm h; have := h.r; omega
    | succ m ih =>
      intro o hm h
      obtain ⟨a0, a1, a2⟩ := h.step
      unfold sz
      rcases a2 with a2 | a2 | ⟨b1, b2, n, b3, b4, b5, b6, b7⟩
      · rw [if_neg (by omega)]; omega
      · rw [if_neg (by unfold Quo at a2; omega)]; omega
      · rw [if_pos ⟨b1, b2⟩, b7]
        have hp := hT.pair a0 a1 b1
        have hs : ∀ (n : Nat) (l : Int), l < o → IsL u l n → AllE u (IsT u) l n → 0 ≤ sumS u l n := by
          intro n
          induction n with
          | zero => intro l _ _ _; exact Int.le_refl _
          | succ n ih2 =>
            intro l hl h1 h2
            have hp2 := hT.pair h1.1 h1.2.1 h1.2.2.1
            have e1 := ih _ (by omega) h2.1
            have e2 := ih2 _ (by omega) h1.2.2.2 h2.2
            show 0 ≤ sz u (u.2.1 0 l) + sumS u (u.2.1 1 l) n
            omega
        have := hs n _ hp.2.2 b5 b6
        unfold capS
        split <;> omega
  intro o h
  exact key (o.toNat + 1) o (by have := h.r; omega) h
theorem sumS_r {u : iST} (hT : TI u) : ∀ {n : Nat} {l : Int}, AllE u (IsT u) l n → (n : Int) ≤ sumS u l n ∧ sumS u l n ≤ 30000 * n
  | 0, _, _ => ⟨by show (0 : Int) ≤ 0; omega, by show (0 : Int) ≤ _; omega⟩
  | n + 1, l, ⟨a, b⟩ => by
    have h1 := a.szr hT
    have h2 := sumS_r hT b
    show ((n + 1 : Nat) : Int) ≤ sz u (u.2.1 0 l) + sumS u (u.2.1 1 l) n ∧ sz u (u.2.1 0 l) + sumS u (u.2.1 1 l) n ≤ 30000 * ((n + 1 : Nat) : Int)
    omega
/-! a term whose functions need not be known -/
def WStep (u : iST) (G : Int → Prop) (x : Int) : Prop := 0 ≤ x ∧ x < u.1 8 ∧ (u.2.1 0 x < 0 ∨ Quo u x ∨ (0 ≤ u.2.1 0 x ∧ u.2.1 0 x ≠ 2 ∧ ∃ n : Nat, n ≤ 6 ∧ IsL u (u.2.1 1 x) n ∧ AllE u G (u.2.1 1 x) n ∧ u.2.1 3 x = capS (1 + sumS u (u.2.1 1 x) n)))
def IsW (u : iST) (o : Int) : Prop := ∃ G : Int → Prop, (∀ x, G x → WStep u G x) ∧ G o
theorem WStep.imp {u : iST} {P Q : Int → Prop} (h : ∀ x, P x → Q x) {x : Int} (a : WStep u P x) : WStep u Q x := by
  obtain ⟨a0, a1, a2⟩ := a
  refine ⟨a0, a1, ?_⟩
  rcases a2 with a2 | a2 | ⟨b1, b2, n, b3, b5, b6, b7⟩
  · exact Or.inl a2
  · exact Or.inr (Or.inl a2)
  · exact Or.inr (Or.inr ⟨b1, b2, n, b3, b5, b6.imp h, b7⟩)
theorem IsW.step {u : iST} {o : Int} (h : IsW u o) : WStep u (IsW u) o := by
  obtain ⟨G, h1, h2⟩ := h
  exact (h1 o h2).imp (fun x hx => ⟨G, h1, hx⟩)
theorem IsT.w {u : iST} {o : Int} (h : IsT u o) : IsW u o := ⟨IsT u, fun x hx => by
  obtain ⟨a0, a1, a2⟩ := hx.step
  refine ⟨a0, a1, ?_⟩
  rcases a2 with a2 | a2 | ⟨b1, b2, n, b3, b4, b5, b6, b7⟩
  · exact Or.inl a2
  · exact Or.inr (Or.inl a2)
  · exact Or.inr (Or.inr ⟨b1, b2, n, b3, b5, b6, b7⟩), h⟩
theorem IsW.r {u : iST} {o : Int} (h : IsW u o) : 0 ≤ o ∧ o < u.1 8 := ⟨h.step.1, h.step.2.1⟩
/-- terms stay terms -/
def ExtT (u v : iST) : Prop := Ext u v ∧ (∀ x, IsW u x → v.2.1 3 x = u.2.1 3 x) ∧ ∀ f n, 0 ≤ f → Ar u f n → Ar v f n
theorem ExtT.rf (u : iST) : ExtT u u := ⟨Ext.rf u, fun _ _ => rfl, fun _ _ _ h => h⟩
theorem IsL.ext {u v : iST} (hT : TI u) (hE : Ext u v) : ∀ {n : Nat} {l : Int}, IsL u l n → IsL v l n
  | 0, _, h => h
  | n + 1, l, ⟨a, b, c, d⟩ => by
    have e := hE.2.1 l a b
    refine ⟨a, by have := hE.1.1; omega, by rw [e.1]; exact c, ?_⟩
    rw [e.2.1]
    exact IsL.ext hT hE d
theorem AllE.ext {u v : iST} {P : Int → Prop} (hE : Ext u v) : ∀ {n : Nat} {l : Int}, IsL u l n → AllE u P l n → AllE v P l n
  | 0, _, _, _ => trivial
  | n + 1, l, ⟨a, b, _, d⟩, ⟨h1, h2⟩ => by
    have e := hE.2.1 l a b
    refine ⟨by rw [e.1]; exact h1, ?_⟩
    rw [e.2.1]
    exact AllE.ext hE d h2
theorem sz_ext {u v : iST} (hE : Ext u v) (hs : ∀ x, IsW u x → v.2.1 3 x = u.2.1 3 x) {x : Int} (h : IsW u x) : sz v x = sz u x := by
  unfold sz
  rw [(hE.2.1 x h.r.1 h.r.2).1, hs x h]
theorem sumS_ext {u v : iST} (hE : Ext u v) (hs : ∀ x, IsW u x → v.2.1 3 x = u.2.1 3 x) : ∀ {n : Nat} {l : Int}, IsL u l n → AllE u (IsW u) l n → sumS v l n = sumS u l n
  | 0, _, _, _ => rfl
  | n + 1, l, ⟨a, b, _, d⟩, ⟨h1, h2⟩ => by
    have e := hE.2.1 l a b
    show sz v (v.2.1 0 l) + sumS v (v.2.1 1 l) n = sz u (u.2.1 0 l) + sumS u (u.2.1 1 l) n
    rw [e.1, e.2.1, sz_ext hE hs h1, sumS_ext hE hs d h2]
theorem IsT.ext {u v : iST} (hT : TI u) (h : ExtT u v) {o : Int} (ho : IsT u o) : IsT v o := by
  obtain ⟨hE, hs, ha⟩ := h
  refine ⟨IsT u, fun x hx => ?_, ho⟩
  obtain ⟨a0, a1, a2⟩ := hx.step
  have e := hE.2.1 x a0 a1
  refine ⟨a0, by have := hE.1.1; omega, ?_⟩
  rcases a2 with a2 | a2 | ⟨b1, b2, n, b3, b4, b5, b6, b7⟩
  · exact Or.inl (by rw [e.1]; exact a2)
  · refine Or.inr (Or.inl ?_)
    have hp := hT.pair a0 a1 a2.1
    have e2 := hE.2.1 _ hp.2.1 (show u.2.1 1 x < u.1 8 by omega)
    unfold Quo at a2 ⊢
    rw [e.1, e.2.1, e2.1, e2.2.1]
    exact a2
  · refine Or.inr (Or.inr ⟨by rw [e.1]; exact b1, by rw [e.1]; exact b2, n, b3, by rw [e.1]; exact ha _ _ b1 b4, by rw [e.2.1]; exact b5.ext hT hE, by rw [e.2.1]; exact b6.ext hE b5, ?_⟩)
    rw [e.2.1, hs x hx.w, b7, sumS_ext hE hs b5 (b6.imp fun _ h => h.w)]
theorem IsW.ext {u v : iST} (hT : TI u) (h : ExtT u v) {o : Int} (ho : IsW u o) : IsW v o := by
  obtain ⟨hE, hs, ha⟩ := h
  refine ⟨IsW u, fun x hx => ?_, ho⟩
  obtain ⟨a0, a1, a2⟩ := hx.step
  have e := hE.2.1 x a0 a1
  refine ⟨a0, by have := hE.1.1; omega, ?_⟩
  rcases a2 with a2 | a2 | ⟨b1, b2, n, b3, b5, b6, b7⟩
  · exact Or.inl (by rw [e.1]; exact a2)
  · refine Or.inr (Or.inl ?_)
    have hp := hT.pair a0 a1 a2.1
    have e2 := hE.2.1 _ hp.2.1 (show u.2.1 1 x < u.1 8 by omega)
    unfold Quo at a2 ⊢
    rw [e.1, e.2.1, e2.1, e2.2.1]
    exact a2
  · refine Or.inr (Or.inr ⟨by rw [e.1]; exact b1, by rw [e.1]; exact b2, n, b3, by rw [e.2.1]; exact b5.ext hT hE, by rw [e.2.1]; exact b6.ext hE b5, ?_⟩)
    rw [e.2.1, hs x hx, b7, sumS_ext hE hs b5 b6]
theorem ExtT.tr {u v w : iST} (hT : TI u) (h : ExtT u v) (g : ExtT v w) : ExtT u w := ⟨h.1.tr g.1, fun x hx => (g.2.1 x (hx.ext hT h)).trans (h.2.1 x hx), fun f n h0 a => g.2.2 f n h0 (h.2.2 f n h0 a)⟩
theorem ExtT.szx {u v : iST} (h : ExtT u v) {x : Int} (hx : IsT u x) : sz v x = sz u x := sz_ext h.1 h.2.1 hx.w
theorem sumS_xt {u v : iST} (h : ExtT u v) {n : Nat} {l : Int} (hl : IsL u l n) (ha : AllE u (IsT u) l n) : sumS v l n = sumS u l n := sumS_ext h.1 h.2.1 hl (ha.imp fun _ z => z.w)
theorem ExtT.szw {u v : iST} (h : ExtT u v) {x : Int} (hx : IsW u x) : sz v x = sz u x := sz_ext h.1 h.2.1 hx
/-- the fields that tell of functions -/
def SameF (u v : iST) : Prop := v.1 35 = u.1 35 ∧ v.2.1 36 = u.2.1 36 ∧ v.2.1 37 = u.2.1 37 ∧ v.1 57 = u.1 57 ∧ v.1 58 = u.1 58
theorem SameF.ar {u v : iST} (h : SameF u v) {f : Int} {n : Nat} : Ar u f n → Ar v f n := by
  obtain ⟨h1, h2, h3, h4, h5⟩ := h
  unfold Ar FnOf Many
  rw [h1, h2, h3, h4, h5]
  exact id
theorem SameF.of {n : Nat → Bool} {u v : iST} (h : Fx n u v) (h1 : n 35 = false) (h2 : n 36 = false) (h3 : n 37 = false) (h4 : n 57 = false) (h5 : n 58 = false) : SameF u v := ⟨fx_s h 35 h1, fx_a h 36 h2, fx_a h 37 h3, fx_s h 57 h4, fx_s h 58 h5⟩
theorem ExtT.of {u v : iST} (h : Ext u v) (hs : Szs u v) (hf : SameF u v) : ExtT u v := ⟨h, fun x hx => hs.1 x hx.r.1 hx.r.2, fun _ _ _ => hf.ar⟩
theorem Grow.extT {u v : iST} {d e : Int} (h : Grow u v d e) : ExtT u v := ExtT.of h.2.1 h.2.2.1 (SameF.of h.2.2.2.1 rfl rfl rfl rfl rfl)
/-! the short questions -/
theorem TI.right_r {u : iST} (hT : TI u) {k : Int} (k0 : 0 ≤ k) (k1 : k < u.1 8) : 0 ≤ u.2.1 1 k ∧ u.2.1 1 k < u.1 8 := by
  have hk := hT.kind k0 k1
  have c1 := cnt_r (u.2.1 0) (-1) k.toNat
  have c2 := cnt_r (u.2.1 0) (-2) k.toNat
  unfold KindOk at hk
  omega
theorem s_nth {o i : Int} {Q : Int → iST → Prop} {u : iST} (hT : TI u) (o0 : 0 ≤ o) (o1 : o < u.1 8) (i0 : 0 ≤ i) (i1 : i < 1000000) (h : Q (el u o i.toNat) u) : w_nth o i Q u := by
  have h8 := hT.2.1
  unfold w_nth w_nth_5
  refine lf3 (B := fun R x2 x3 x4 u => w_nth_5b R Q x2 x3 x4 u) (fun x2 x3 x4 v => v = u ∧ x2 = i ∧ 0 ≤ x3 ∧ x3 < u.1 8 ∧ 0 ≤ x4 ∧ x4 ≤ i ∧ el u x3 (i - x4).toNat = el u o i.toNat) (fun _ _ x4 _ => (i - x4).toNat) ?_ ⟨rfl, rfl, o0, o1, Int.le_refl _, i0, by rw [show i - 0 = i from by omega]⟩
  intro x2 x3 x4 v hI R ih
  obtain ⟨rfl, rfl, p1, p2, p3, p4, p5⟩ := hI
  unfold w_nth_5b
  refine br_i (fun hc => bd_i p1 (by omega) (rd_i fun _ => ?_)) (fun hc => bd_i p1 (by omega) (rd_i fun _ => ov_i (by omega) (by omega) ?_))
  · have e : x2 - x4 = 0 := by omega
    rw [e] at p5
    have p5 : v.2.1 0 x3 = el v o x2.toNat := p5
    rw [p5]
    exact h
  · have hr := hT.right_r p1 p2
    refine ih _ _ _ _ ⟨rfl, rfl, hr.1, hr.2, by omega, by omega, ?_⟩ (by omega)
    rw [← p5, show (x2 - x4).toNat = (x2 - (x4 + 1)).toNat + 1 from by omega]
    rfl
theorem s_term {o i : Int} {Q : Int → iST → Prop} {u : iST} (hT : TI u) (o0 : 0 ≤ o) (o1 : o < u.1 8) (i0 : 0 ≤ i) (i1 : i < 1000000) (h : Q (el u o i.toNat) u) : w_term o i Q u := by
  unfold w_term
  exact s_nth hT o0 o1 i0 i1 h
/-- NONE, or how many cells the list has -/
theorem s_lengthOf {o : Int} {Q : Int → iST → Prop} {u : iST} (hT : TI u) (o0 : 0 ≤ o) (o1 : o < u.1 8) (hnone : (∀ n, ¬ IsL u o n) → Q (-1) u) (h : ∀ n : Nat, (n : Int) ≤ u.1 8 → IsL u o n → Q n u) : w_lengthOf o Q u := by
  have h8 := hT.2.1
  have h44 := hT.1
  unfold w_lengthOf w_lengthOf_4
  refine lf2 (B := fun R x2 x3 u => w_lengthOf_4b R Q x2 x3 u) (fun x2 x3 v => v = u ∧ 0 ≤ x2 ∧ x2 + x3 ≤ o ∧ 0 ≤ x3 ∧ x3 < u.1 8 ∧ (∀ n, IsL u x3 n → IsL u o (n + x2.toNat)) ∧ ∀ n, IsL u o n → x2.toNat ≤ n ∧ IsL u x3 (n - x2.toNat)) (fun _ x3 _ => x3.toNat) ?_ ⟨rfl, Int.le_refl _, by omega, o0, o1, fun n hn => hn, fun n hn => ⟨Nat.zero_le _, hn⟩⟩
  intro x2 x3 v hI R ih
  obtain ⟨rfl, p1, p2, p3, p4, p5, p6⟩ := hI
  unfold w_lengthOf_4b
  refine s_isPair p3 (by omega) fun r _ hr => br_i (fun hc => br_i (fun hd => ?_) (fun hd => ?_)) (fun hc => ?_)
  · refine hnone (fun n hn => ?_)
    have := p6 n hn
    have hneg := hr.mp hc
    generalize n - x2.toNat = q at this
    cases q with
    | zero => exact hd this.2
    | succ q => have := this.2.2.2.1; omega
  · have e : x3 = 0 := by omega
    have := p5 0 e
    rw [Nat.zero_add] at this
    have := h x2.toNat (by omega) this
    rw [Int.toNat_of_nonneg p1] at this
    exact this
  · have hp : 0 ≤ v.2.1 0 x3 := by
      have : ¬ v.2.1 0 x3 < 0 := fun z => hc (hr.mpr z)
      omega
    have hq := hT.pair p3 p4 hp
    refine ov_i (by omega) (by omega) (bd_i p3 (by omega) (rd_i fun _ => ih _ _ _ ⟨rfl, by omega, by omega, hq.2.1, by omega, fun n hn => ?_, fun n hn => ?_⟩ (by omega)))
    · have := p5 (n + 1) ⟨p3, p4, hp, hn⟩
      rw [show n + (x2 + 1).toNat = n + 1 + x2.toNat from by omega]
      exact this
    · obtain ⟨q1, q2⟩ := p6 n hn
      rw [show (x2 + 1).toNat = x2.toNat + 1 from by omega]
      have hnz : n - x2.toNat ≠ 0 := by
        intro hz
        rw [hz] at q2
        have q2 : x3 = 0 := q2
        have h9 := hT.2.2.2.2.2.2.2.2.1 0 (by decide) (by decide)
        rw [q2] at hp
        omega
      obtain ⟨m, hm⟩ := Nat.exists_eq_succ_of_ne_zero hnz
      rw [hm] at q2
      refine ⟨by omega, ?_⟩
      rw [show n - (x2.toNat + 1) = m from by omega]
      exact q2.2.2.2
