/-! the class: the book, in the order in which it was filled -/
def cntK (u : iST) : Nat → Int
  | 0 => 0
  | n + 1 => cntK u n + (if u.2.1 14 n = 1 then 1 else 0)
theorem cntK_r (u : iST) : ∀ n : Nat, 0 ≤ cntK u n ∧ cntK u n ≤ n
  | 0 => ⟨Int.le_refl _, Int.le_refl _⟩
  | n + 1 => by
    have := cntK_r u n
    show 0 ≤ cntK u n + (if u.2.1 14 n = 1 then 1 else 0) ∧ cntK u n + (if u.2.1 14 n = 1 then 1 else 0) ≤ ((n + 1 : Nat) : Int)
    split <;> omega
theorem cntK_s (u : iST) (n : Nat) : cntK u (n + 1) = cntK u n + (if u.2.1 14 n = 1 then 1 else 0) := rfl
theorem cntK_le (u : iST) : ∀ {n m : Nat}, n ≤ m → cntK u n ≤ cntK u m ∧ n - cntK u n ≤ m - cntK u m := by
  intro n m h
  induction h with
  | refl => exact ⟨Int.le_refl _, Int.le_refl _⟩
  | step h ih =>
    rename_i k
    rw [cntK_s]
    split <;> omega
theorem cntK_eq {u v : iST} : ∀ {n : Nat}, (∀ i : Int, 0 ≤ i → i < n → v.2.1 14 i = u.2.1 14 i) → cntK v n = cntK u n
  | 0, _ => rfl
  | n + 1, h => by rw [cntK_s, cntK_s, cntK_eq (fun i i0 i1 => h i i0 (by omega)), h n (by omega) (by omega)]
/-- how much of the room was kept before entry e -/
def mkA (u : iST) (e : Int) : Int := if e = u.1 2 then u.1 3 else u.2.1 15 e
def FunOk (u : iST) (f m : Int) : Prop := (16 < u.2.1 0 f ∧ u.2.1 0 f < m) ∧ u.2.1 1 f < m ∧ (0 ≤ u.2.1 2 f ∧ u.2.1 2 f ≤ 6) ∧ (0 ≤ u.2.1 3 f ∧ u.2.1 3 f < m) ∧ WF u (u.2.1 3 f) ∧ u.2.1 4 f < m
def ThmOk (u : iST) (t m : Int) : Prop := u.2.1 5 t < m ∧ u.2.1 6 t < m ∧ (u.2.1 7 t ≠ -1 → u.2.1 8 t < m ∧ (0 ≤ u.2.1 9 t ∧ u.2.1 9 t ≤ 60) ∧ ∀ j, 0 ≤ j → j < u.2.1 9 t → u.2.1 50 (60 * t + j) < m)
theorem FunOk.mono {u : iST} {f m m' : Int} (h : FunOk u f m) (hm : m ≤ m') : FunOk u f m' := by
  obtain ⟨a, b, c, d, e, g⟩ := h
  exact ⟨⟨a.1, by omega⟩, by omega, c, ⟨d.1, by omega⟩, e, by omega⟩
theorem ThmOk.mono {u : iST} {t m m' : Int} (h : ThmOk u t m) (hm : m ≤ m') : ThmOk u t m' := by
  obtain ⟨a, b, c⟩ := h
  refine ⟨by omega, by omega, fun z => ?_⟩
  obtain ⟨d, e, f⟩ := c z
  exact ⟨by omega, e, fun j j0 j1 => by have := f j j0 j1; omega⟩
def EntOkc (u : iST) (e : Nat) : Prop := (u.2.1 14 e = 1 → FunOk u (cntK u e) (mkA u (e + 1))) ∧ (u.2.1 14 e ≠ 1 → ThmOk u (e - cntK u e) (mkA u (e + 1)))
def BL (u : iST) : Prop := (0 ≤ u.1 2 ∧ u.1 2 ≤ 100) ∧ 44 ≤ mkA u 0 ∧ (∀ e, 0 ≤ e → e < u.1 2 → mkA u e ≤ mkA u (e + 1)) ∧ u.1 3 ≤ u.1 29 ∧ (u.1 0 = cntK u (u.1 2).toNat ∧ u.1 0 ≤ 40) ∧ (u.1 1 = u.1 2 - cntK u (u.1 2).toNat ∧ u.1 1 ≤ 60) ∧ ∀ e : Nat, (e : Int) < u.1 2 → EntOkc u e
theorem BL.all {u : iST} (h : BL u) : ∀ n : Nat, (n : Int) ≤ u.1 2 → (∀ f, 0 ≤ f → f < cntK u n → FunOk u f (mkA u n)) ∧ (∀ t, 0 ≤ t → t < n - cntK u n → ThmOk u t (mkA u n))
  | 0, _ => ⟨fun f f0 f1 => by have : cntK u 0 = 0 := rfl; omega, fun t t0 t1 => by have : cntK u 0 = 0 := rfl; omega⟩
  | n + 1, hn => by
    obtain ⟨ih1, ih2⟩ := BL.all h n (by omega)
    have hm := h.2.2.1 n (by omega) (by omega)
    have he := h.2.2.2.2.2.2 n (by omega)
    have e1 : (((n + 1 : Nat)) : Int) = (n : Int) + 1 := by omega
    rw [cntK_s, e1]
    by_cases k : u.2.1 14 n = 1
    · rw [if_pos k]
      refine ⟨fun f f0 f1 => ?_, fun t t0 t1 => (ih2 t t0 (by omega)).mono hm⟩
      by_cases q : f = cntK u n
      · rw [q]; exact he.1 k
      · exact (ih1 f f0 (by omega)).mono hm
    · rw [if_neg k]
      refine ⟨fun f f0 f1 => (ih1 f f0 (by omega)).mono hm, fun t t0 t1 => ?_⟩
      by_cases q : t = n - cntK u n
      · rw [q]; exact he.2 k
      · exact (ih2 t t0 (by omega)).mono hm
theorem BL.ge {u : iST} (h : BL u) : ∀ n : Nat, (n : Int) ≤ u.1 2 → 44 ≤ mkA u n
  | 0, _ => h.2.1
  | n + 1, hn => by
    have := BL.ge h n (by omega)
    have := h.2.2.1 n (by omega) (by omega)
    have e1 : (((n + 1 : Nat)) : Int) = (n : Int) + 1 := by omega
    rw [e1]
    omega
theorem mkA_end (u : iST) : mkA u (u.1 2) = u.1 3 := if_pos rfl
theorem BL.k44 {u : iST} (h : BL u) : 44 ≤ u.1 3 := by
  have q := h.ge (u.1 2).toNat (by have := h.1; omega)
  have e : (((u.1 2).toNat : Nat) : Int) = u.1 2 := by have := h.1; omega
  rw [e, mkA_end] at q
  exact q
theorem BL.fun {u : iST} (h : BL u) {f : Int} (f0 : 0 ≤ f) (f1 : f < u.1 0) : FunOk u f (u.1 3) := by
  have e : (((u.1 2).toNat : Nat) : Int) = u.1 2 := by have := h.1; omega
  have q := (h.all (u.1 2).toNat (by omega)).1 f f0 (by have := h.2.2.2.2.1.1; omega)
  rw [e, mkA_end] at q
  exact q
theorem BL.thm {u : iST} (h : BL u) {t : Int} (t0 : 0 ≤ t) (t1 : t < u.1 1) : ThmOk u t (u.1 3) := by
  have e : (((u.1 2).toNat : Nat) : Int) = u.1 2 := by have := h.1; omega
  have q := (h.all (u.1 2).toNat (by omega)).2 t t0 (by have := h.2.2.2.2.2.1.1; omega)
  rw [e, mkA_end] at q
  exact q
theorem BL.n0 {u : iST} (h : BL u) : 0 ≤ u.1 0 ∧ 0 ≤ u.1 1 := by
  have := cntK_r u (u.1 2).toNat
  have := h.1
  have := h.2.2.2.2.1.1
  have := h.2.2.2.2.2.1.1
  omega
theorem BL.BE {u : iST} (h : BL u) : BE u := by
  have n0 := h.n0
  refine ⟨⟨⟨n0.1, h.2.2.2.2.1.2⟩, ⟨n0.2, h.2.2.2.2.2.1.2⟩, fun d d0 d1 => ?_⟩, fun d d0 d1 => ?_⟩
  · have q := h.fun d0 d1
    exact ⟨q.2.2.1.1, q.2.2.1.2, q.1.1⟩
  · have q := h.fun d0 d1
    exact ⟨q.2.2.2.2.1, q.2.2.2.1.1⟩
theorem BL.TB {u : iST} (h : BL u) : TB u := fun k k0 k1 => by
  obtain ⟨a, b, c⟩ := h.thm k0 k1
  have k29 := h.2.2.2.1
  refine ⟨by omega, fun z => ?_⟩
  obtain ⟨d, e, f⟩ := c z
  exact ⟨by omega, e.1, e.2, fun j j0 j1 => by have := f j j0 j1; omega⟩
theorem BL.NB {u : iST} (h : BL u) : NB u := fun d d0 d1 => by
  have q := h.fun d0 d1
  have k29 := h.2.2.2.1
  exact ⟨by have := q.1.2; omega, by have := q.2.1; omega⟩
/-- a state with the same book -/
theorem BL.same {u v : iST} (h : BL u) (hs : ∀ k, k ∈ [0, 1, 2, 3] → v.1 k = u.1 k) (hr : ∀ k, k ∈ [0, 1, 2, 3, 4, 5, 6, 7, 8, 9, 14, 15, 50] → v.2.1 k = u.2.1 k) (h29 : u.1 3 ≤ v.1 29) (hw : ∀ f, 0 ≤ f → f < u.1 0 → WF v (u.2.1 3 f)) : BL v := by
  have hmk : ∀ e, mkA v e = mkA u e := fun e => by unfold mkA; rw [hs 2 (by decide), hs 3 (by decide), hr 15 (by decide)]
  have hc : ∀ n, cntK v n = cntK u n := fun n => cntK_eq (fun i _ _ => by rw [hr 14 (by decide)])
  obtain ⟨a, b, c, d, e, f, g⟩ := h
  refine ⟨by rw [hs 2 (by decide)]; exact a, by rw [hmk]; exact b, fun x x0 x1 => ?_, by rw [hs 3 (by decide)]; exact h29, by rw [hs 0 (by decide), hs 2 (by decide), hc]; exact e, by rw [hs 1 (by decide), hs 2 (by decide), hc]; exact f, fun x hx => ?_⟩
  · rw [hs 2 (by decide)] at x1
    rw [hmk, hmk]
    exact c x x0 x1
  · rw [hs 2 (by decide)] at hx
    obtain ⟨p, q⟩ := g x hx
    unfold EntOkc
    rw [hr 14 (by decide), hmk, hc]
    refine ⟨fun z => ?_, fun z => ?_⟩
    · have w := p z
      have cr := cntK_r u x
      have cl := cntK_le u (n := x + 1) (m := (u.1 2).toNat) (by omega)
      rw [cntK_s, if_pos z] at cl
      unfold FunOk at *
      rw [hr 0 (by decide), hr 1 (by decide), hr 2 (by decide), hr 3 (by decide), hr 4 (by decide)]
      exact ⟨w.1, w.2.1, w.2.2.1, w.2.2.2.1, hw _ cr.1 (by omega), w.2.2.2.2.2⟩
    · have w := q z
      unfold ThmOk at *
      rw [hr 5 (by decide), hr 6 (by decide), hr 7 (by decide), hr 8 (by decide), hr 9 (by decide), hr 50 (by decide)]
      exact w
theorem BL.rg {u v : iST} {S R : List Nat} (h : BL u) (hT : RT u) (g : RG S R u v) (h1 : ∀ k ∈ [0, 1, 2, 3], k ∉ S) (h2 : ∀ k ∈ [0, 1, 2, 3, 4, 5, 6, 7, 8, 9, 14, 15, 50], k ∉ R) : BL v :=
  h.same (fun k hk => g.s k (h1 k hk)) (fun k hk => g.a k (h2 k hk)) (by have := g.2.1.1; have := h.2.2.2.1; omega) (fun f f0 f1 => (h.fun f0 f1).2.2.2.2.1.ext hT g.2.1)
/-- what can be evaluated stays so when newer nodes are forgotten -/
theorem WF.down {u v : iST} (hT : RT u) (hL : v.2.2 = u.2.2) (h29 : v.1 29 ≤ u.1 29) {x : Int} (hx : WF u x) (hm : x < v.1 29) (h0 : 0 < v.1 29) : WF v x := by
  have prE : ∀ y, y < v.1 29 → (pr v y ↔ pr u y) := fun y hy => by
    unfold pr
    rw [hL]
    constructor
    · intro z; exact ⟨z.1, by omega, z.2.2⟩
    · intro z; exact ⟨z.1, hy, z.2.2⟩
  have elE : ∀ y, y < v.1 29 → eL v y = eL u y ∧ eR v y = eR u y := fun y hy => by
    unfold eL eR
    by_cases q : pr u y
    · have q2 := (prE y hy).2 q
      rw [if_pos q, if_pos q2, if_pos q, if_pos q2, hL]
      exact ⟨rfl, rfl⟩
    · have q2 : ¬ pr v y := fun z => q ((prE y hy).1 z)
      rw [if_neg q, if_neg q2, if_neg q, if_neg q2]
      exact ⟨rfl, rfl⟩
  have dn : ∀ y, y < v.1 29 → eL u y < v.1 29 ∧ eR u y < v.1 29 := fun y hy => by
    by_cases q : pr u y
    · have a := (eL_r hT y).2.2 q
      have b := (eR_r hT y).2.2 q
      omega
    · unfold eL eR
      rw [if_neg q, if_neg q]
      omega
  have ln : ∀ (n : Nat) (y : Int), y < v.1 29 → LnP u n y → LnP v n y := by
    intro n
    induction n with
    | zero => intro y hy h z; exact h ((prE y hy).1 z)
    | succ n ih => intro y hy h; exact ⟨(prE y hy).2 h.1, by rw [(elE y hy).2]; exact ih _ (dn y hy).2 h.2⟩
  obtain ⟨P, hp, hP⟩ := hx
  have al : ∀ (n : Nat) (y : Int), y < v.1 29 → AllL u P n y → AllL v (fun z => P z ∧ z < v.1 29) n y := by
    intro n
    induction n with
    | zero => intro y _ _; trivial
    | succ n ih => intro y hy h; exact ⟨by rw [(elE y hy).1]; exact ⟨h.1, (dn y hy).1⟩, by rw [(elE y hy).2]; exact ih _ (dn y hy).2 h.2⟩
  refine ⟨fun y => P y ∧ y < v.1 29, ⟨hp, hm⟩, fun y hy => ⟨hy.2, fun c d => ?_⟩⟩
  obtain ⟨hy1, hy2⟩ := hy
  have e := elE y hy2
  rw [e.1] at d
  obtain ⟨n, f, g, i⟩ := (hP y hy1).2 ((prE y hy2).1 c) d
  rw [e.1, e.2]
  exact ⟨n, f, ln n _ (dn y hy2).2 g, al n _ (dn y hy2).2 i⟩
/-- something is entered -/
theorem BL.ent {u v : iST} {m k : Int} (h : BL u) (hT : RT u) (hC : Ce u v) (h100 : u.1 2 < 100) (v2 : v.1 2 = u.1 2 + 1) (v3 : v.1 3 = m) (r14 : ∀ i, v.2.1 14 i = if i = u.1 2 then k else u.2.1 14 i) (r15 : ∀ i, v.2.1 15 i = if i = u.1 2 then u.1 3 else u.2.1 15 i) (m0 : u.1 3 ≤ m) (m1 : m ≤ v.1 29) (hk : (k = 1 ∧ v.1 0 = u.1 0 + 1 ∧ v.1 1 = u.1 1 ∧ u.1 0 < 40 ∧ FunOk v (u.1 0) m) ∨ (k ≠ 1 ∧ v.1 0 = u.1 0 ∧ v.1 1 = u.1 1 + 1 ∧ u.1 1 < 60 ∧ ThmOk v (u.1 1) m)) (hf : ∀ f, f ≠ u.1 0 ∨ k ≠ 1 → v.2.1 0 f = u.2.1 0 f ∧ v.2.1 1 f = u.2.1 1 f ∧ v.2.1 2 f = u.2.1 2 f ∧ v.2.1 3 f = u.2.1 3 f ∧ v.2.1 4 f = u.2.1 4 f) (ht : ∀ t, t ≠ u.1 1 ∨ k = 1 → v.2.1 5 t = u.2.1 5 t ∧ v.2.1 6 t = u.2.1 6 t ∧ v.2.1 7 t = u.2.1 7 t ∧ v.2.1 8 t = u.2.1 8 t ∧ v.2.1 9 t = u.2.1 9 t ∧ ∀ j, 0 ≤ j → j < 60 → v.2.1 50 (60 * t + j) = u.2.1 50 (60 * t + j)) : BL v := by
  have eN : (((u.1 2).toNat : Nat) : Int) = u.1 2 := by have := h.1; omega
  have hc : ∀ n : Nat, (n : Int) ≤ u.1 2 → cntK v n = cntK u n := fun n hn => cntK_eq (fun i i0 i1 => by rw [r14, if_neg (by omega)])
  have mk1 : ∀ e, e ≤ u.1 2 → mkA v e = mkA u e := fun e he => by
    unfold mkA
    rw [if_neg (by omega), r15]
  have mk2 : mkA v (u.1 2 + 1) = m := by unfold mkA; rw [if_pos (by omega), v3]
  have cN : cntK v (u.1 2 + 1).toNat = u.1 0 + (if k = 1 then 1 else 0) := by
    rw [show (u.1 2 + 1).toNat = (u.1 2).toNat + 1 from by have := h.1; omega, cntK_s, hc _ (by omega), eN, r14, if_pos rfl, h.2.2.2.2.1.1]
  obtain ⟨a, b, c, d, e, f, g⟩ := h
  refine ⟨by omega, by rw [mk1 0 (by omega)]; exact b, fun x x0 x1 => ?_, by omega, ?_, ?_, fun x hx => ?_⟩
  · by_cases q : x = u.1 2
    · rw [q, mk2, mk1 _ (Int.le_refl _), mkA_end]; exact m0
    · rw [mk1 x (by omega), mk1 (x + 1) (by omega)]; exact c x x0 (by omega)
  · rw [v2, cN]
    rcases hk with hk | hk
    · rw [if_pos hk.1]; omega
    · rw [if_neg hk.1]; omega
  · rw [v2, cN]
    rcases hk with hk | hk
    · rw [if_pos hk.1]; omega
    · rw [if_neg hk.1]; omega
  · by_cases q : (x : Int) = u.1 2
    · have ex : cntK v x = u.1 0 := by rw [hc x (by omega), e.1, ← q, show ((x : Int)).toNat = x from by omega]
      unfold EntOkc
      rw [ex, q, mk2, r14, if_pos rfl]
      refine ⟨fun z => ?_, fun z => ?_⟩
      · rcases hk with hk | hk
        · exact hk.2.2.2.2
        · exact absurd z hk.1
      · rcases hk with hk | hk
        · exact absurd hk.1 z
        · rw [show u.1 2 - u.1 0 = u.1 1 from by omega]; exact hk.2.2.2.2
    · obtain ⟨p1, p2⟩ := g x (by omega)
      unfold EntOkc
      rw [r14, if_neg q, hc x (by omega), mk1 _ (by omega)]
      have cl := cntK_le u (n := x + 1) (m := (u.1 2).toNat) (by omega)
      rw [cntK_s] at cl
      refine ⟨fun z => ?_, fun z => ?_⟩
      · have w := p1 z
        rw [if_pos z] at cl
        obtain ⟨q0, q1, q2, q3, q4⟩ := hf (cntK u x) (Or.inl (by omega))
        unfold FunOk at *
        rw [q0, q1, q2, q3, q4]
        exact ⟨w.1, w.2.1, w.2.2.1, w.2.2.2.1, w.2.2.2.2.1.ext hT hC, w.2.2.2.2.2⟩
      · have w := p2 z
        rw [if_neg z] at cl
        obtain ⟨q5, q6, q7, q8, q9, q50⟩ := ht (x - cntK u x) (Or.inl (by omega))
        unfold ThmOk at *
        rw [q5, q6, q7, q8, q9]
        refine ⟨w.1, w.2.1, fun y => ?_⟩
        obtain ⟨w1, w2, w3⟩ := w.2.2 y
        exact ⟨w1, w2, fun j j0 j1 => by rw [q50 j j0 (by omega)]; exact w3 j j0 j1⟩
/-- the latest entry is taken back -/
theorem BL.back {u v : iST} (h : BL u) (hT : RT u) (hC : Ce u v) (hp : 0 < u.1 2) (v2 : v.1 2 = u.1 2 - 1) (v3 : v.1 3 = u.2.1 15 (u.1 2 - 1)) (hr : v.2.1 = u.2.1) (hk : (u.2.1 14 (u.1 2 - 1) = 1 ∧ v.1 0 = u.1 0 - 1 ∧ v.1 1 = u.1 1) ∨ (u.2.1 14 (u.1 2 - 1) ≠ 1 ∧ v.1 0 = u.1 0 ∧ v.1 1 = u.1 1 - 1)) : BL v := by
  obtain ⟨a, b, c, d, e, f, g⟩ := h
  have hc : ∀ n, cntK v n = cntK u n := fun n => cntK_eq (fun i _ _ => by rw [hr])
  have mk1 : ∀ x, x ≤ u.1 2 - 1 → mkA v x = mkA u x := fun x hx => by
    unfold mkA
    by_cases q : x = u.1 2 - 1
    · rw [if_pos (by omega), if_neg (by omega), v3, q]
    · rw [if_neg (by omega), if_neg (by omega), hr]
  obtain ⟨n, hn⟩ : ∃ n : Nat, u.1 2 = n + 1 := ⟨(u.1 2 - 1).toNat, by omega⟩
  have eN : (u.1 2).toNat = n + 1 := by omega
  have eM : (v.1 2).toNat = n := by omega
  have e14 : u.1 2 - 1 = n := by omega
  rw [eN, cntK_s] at e f
  rw [e14] at hk
  have lm := c n (by omega) (by omega)
  have lm2 : mkA u (n + 1) = u.1 3 := by unfold mkA; rw [if_pos (by omega)]
  have lm3 : mkA u n = v.1 3 := by unfold mkA; rw [if_neg (by omega), v3, e14]
  refine ⟨by omega, by rw [mk1 0 (by omega)]; exact b, fun x x0 x1 => ?_, by have := hC.1; omega, ?_, ?_, fun x hx => ?_⟩
  · rw [mk1 x (by omega), mk1 (x + 1) (by omega)]; exact c x x0 (by omega)
  · rw [eM, hc]
    rcases hk with hk | hk
    · rw [if_pos hk.1] at e; omega
    · rw [if_neg hk.1] at e; omega
  · rw [eM, hc]
    rcases hk with hk | hk
    · rw [if_pos hk.1] at f; omega
    · rw [if_neg hk.1] at f; omega
  · obtain ⟨p1, p2⟩ := g x (by omega)
    unfold EntOkc
    rw [hr, hc, mk1 _ (by omega)]
    refine ⟨fun z => ?_, fun z => ?_⟩
    · have w := p1 z
      unfold FunOk at *
      rw [hr]
      exact ⟨w.1, w.2.1, w.2.2.1, w.2.2.2.1, w.2.2.2.2.1.ext hT hC, w.2.2.2.2.2⟩
    · have w := p2 z
      unfold ThmOk at *
      rw [hr]
      exact w
