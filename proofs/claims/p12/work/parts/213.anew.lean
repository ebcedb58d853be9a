/-! instances -/
theorem lr0 {B : (iST → Prop) → iST → Prop} (I : Nat → iST → Prop) (hs : ∀ n u, I n u → ∀ R : iST → Prop, (∀ m v, m < n → I m v → R v) → B R u) {n : Nat} {u : iST} (h : I n u) : ∀ R : iST → Prop, (∀ u, B R u → R u) → R u := by
  intro R hR
  have key : ∀ (k n : Nat) (u : iST), n < k → I n u → R u := by
    intro k
    induction k with
    | zero => intro n u h _; omega
    | succ k ih => intro n u hk hI; exact hR u (hs n u hI R (fun m v hm hv => ih m v (by omega) hv))
  exact key _ n u (Nat.lt_succ_self _) h
theorem lr1 {B : (Int → iST → Prop) → Int → iST → Prop} (I : Nat → Int → iST → Prop) (hs : ∀ (n : Nat) (x0 : Int) (u : iST), I n x0 u → ∀ R : Int → iST → Prop, (∀ (m : Nat) (y0 : Int) (v : iST), m < n → I m y0 v → R y0 v) → B R x0 u) {n : Nat} {x0 : Int} {u : iST} (h : I n x0 u) : ∀ R : Int → iST → Prop, (∀ (x0 : Int) (u : iST), B R x0 u → R x0 u) → R x0 u := by
  intro R hR
  have key : ∀ (k n : Nat) (x0 : Int) (u : iST), n < k → I n x0 u → R x0 u := by
    intro k
    induction k with
    | zero => intro n x0 u h _; omega
    | succ k ih => intro n x0 u hk hI; exact hR x0 u (hs n x0 u hI R (fun m y0 v hm hv => ih m y0 v (by omega) hv))
  exact key _ n x0 u (Nat.lt_succ_self _) h
theorem lr2 {B : (Int → Int → iST → Prop) → Int → Int → iST → Prop} (I : Nat → Int → Int → iST → Prop) (hs : ∀ (n : Nat) (x0 x1 : Int) (u : iST), I n x0 x1 u → ∀ R : Int → Int → iST → Prop, (∀ (m : Nat) (y0 y1 : Int) (v : iST), m < n → I m y0 y1 v → R y0 y1 v) → B R x0 x1 u) {n : Nat} {x0 x1 : Int} {u : iST} (h : I n x0 x1 u) : ∀ R : Int → Int → iST → Prop, (∀ (x0 x1 : Int) (u : iST), B R x0 x1 u → R x0 x1 u) → R x0 x1 u := by
  intro R hR
  have key : ∀ (k n : Nat) (x0 x1 : Int) (u : iST), n < k → I n x0 x1 u → R x0 x1 u := by
    intro k
    induction k with
    | zero => intro n x0 x1 u h _; omega
    | succ k ih => intro n x0 x1 u hk hI; exact hR x0 x1 u (hs n x0 x1 u hI R (fun m y0 y1 v hm hv => ih m y0 y1 v (by omega) hv))
  exact key _ n x0 x1 u (Nat.lt_succ_self _) h
theorem lr3 {B : (Int → Int → Int → iST → Prop) → Int → Int → Int → iST → Prop} (I : Nat → Int → Int → Int → iST → Prop) (hs : ∀ (n : Nat) (x0 x1 x2 : Int) (u : iST), I n x0 x1 x2 u → ∀ R : Int → Int → Int → iST → Prop, (∀ (m : Nat) (y0 y1 y2 : Int) (v : iST), m < n → I m y0 y1 y2 v → R y0 y1 y2 v) → B R x0 x1 x2 u) {n : Nat} {x0 x1 x2 : Int} {u : iST} (h : I n x0 x1 x2 u) : ∀ R : Int → Int → Int → iST → Prop, (∀ (x0 x1 x2 : Int) (u : iST), B R x0 x1 x2 u → R x0 x1 x2 u) → R x0 x1 x2 u := by
  intro R hR
  have key : ∀ (k n : Nat) (x0 x1 x2 : Int) (u : iST), n < k → I n x0 x1 x2 u → R x0 x1 x2 u := by
    intro k
    induction k with
    | zero => intro n x0 x1 x2 u h _; omega
    | succ k ih => intro n x0 x1 x2 u hk hI; exact hR x0 x1 x2 u (hs n x0 x1 x2 u hI R (fun m y0 y1 y2 v hm hv => ih m y0 y1 y2 v (by omega) hv))
  exact key _ n x0 x1 x2 u (Nat.lt_succ_self _) h
theorem lr4 {B : (Int → Int → Int → Int → iST → Prop) → Int → Int → Int → Int → iST → Prop} (I : Nat → Int → Int → Int → Int → iST → Prop) (hs : ∀ (n : Nat) (x0 x1 x2 x3 : Int) (u : iST), I n x0 x1 x2 x3 u → ∀ R : Int → Int → Int → Int → iST → Prop, (∀ (m : Nat) (y0 y1 y2 y3 : Int) (v : iST), m < n → I m y0 y1 y2 y3 v → R y0 y1 y2 y3 v) → B R x0 x1 x2 x3 u) {n : Nat} {x0 x1 x2 x3 : Int} {u : iST} (h : I n x0 x1 x2 x3 u) : ∀ R : Int → Int → Int → Int → iST → Prop, (∀ (x0 x1 x2 x3 : Int) (u : iST), B R x0 x1 x2 x3 u → R x0 x1 x2 x3 u) → R x0 x1 x2 x3 u := by
  intro R hR
  have key : ∀ (k n : Nat) (x0 x1 x2 x3 : Int) (u : iST), n < k → I n x0 x1 x2 x3 u → R x0 x1 x2 x3 u := by
    intro k
    induction k with
    | zero => intro n x0 x1 x2 x3 u h _; omega
    | succ k ih => intro n x0 x1 x2 x3 u hk hI; exact hR x0 x1 x2 x3 u (hs n x0 x1 x2 x3 u hI R (fun m y0 y1 y2 y3 v hm hv => ih m y0 y1 y2 y3 v (by omega) hv))
  exact key _ n x0 x1 x2 x3 u (Nat.lt_succ_self _) h
theorem lr5 {B : (Int → Int → Int → Int → Int → iST → Prop) → Int → Int → Int → Int → Int → iST → Prop} (I : Nat → Int → Int → Int → Int → Int → iST → Prop) (hs : ∀ (n : Nat) (x0 x1 x2 x3 x4 : Int) (u : iST), I n x0 x1 x2 x3 x4 u → ∀ R : Int → Int → Int → Int → Int → iST → Prop, (∀ (m : Nat) (y0 y1 y2 y3 y4 : Int) (v : iST), m < n → I m y0 y1 y2 y3 y4 v → R y0 y1 y2 y3 y4 v) → B R x0 x1 x2 x3 x4 u) {n : Nat} {x0 x1 x2 x3 x4 : Int} {u : iST} (h : I n x0 x1 x2 x3 x4 u) : ∀ R : Int → Int → Int → Int → Int → iST → Prop, (∀ (x0 x1 x2 x3 x4 : Int) (u : iST), B R x0 x1 x2 x3 x4 u → R x0 x1 x2 x3 x4 u) → R x0 x1 x2 x3 x4 u := by
  intro R hR
  have key : ∀ (k n : Nat) (x0 x1 x2 x3 x4 : Int) (u : iST), n < k → I n x0 x1 x2 x3 x4 u → R x0 x1 x2 x3 x4 u := by
    intro k
    induction k with
    | zero => intro n x0 x1 x2 x3 x4 u h _; omega
    | succ k ih => intro n x0 x1 x2 x3 x4 u hk hI; exact hR x0 x1 x2 x3 x4 u (hs n x0 x1 x2 x3 x4 u hI R (fun m y0 y1 y2 y3 y4 v hm hv => ih m y0 y1 y2 y3 y4 v (by omega) hv))
  exact key _ n x0 x1 x2 x3 x4 u (Nat.lt_succ_self _) h
theorem lr6 {B : (Int → Int → Int → Int → Int → Int → iST → Prop) → Int → Int → Int → Int → Int → Int → iST → Prop} (I : Nat → Int → Int → Int → Int → Int → Int → iST → Prop) (hs : ∀ (n : Nat) (x0 x1 x2 x3 x4 x5 : Int) (u : iST), I n x0 x1 x2 x3 x4 x5 u → ∀ R : Int → Int → Int → Int → Int → Int → iST → Prop, (∀ (m : Nat) (y0 y1 y2 y3 y4 y5 : Int) (v : iST), m < n → I m y0 y1 y2 y3 y4 y5 v → R y0 y1 y2 y3 y4 y5 v) → B R x0 x1 x2 x3 x4 x5 u) {n : Nat} {x0 x1 x2 x3 x4 x5 : Int} {u : iST} (h : I n x0 x1 x2 x3 x4 x5 u) : ∀ R : Int → Int → Int → Int → Int → Int → iST → Prop, (∀ (x0 x1 x2 x3 x4 x5 : Int) (u : iST), B R x0 x1 x2 x3 x4 x5 u → R x0 x1 x2 x3 x4 x5 u) → R x0 x1 x2 x3 x4 x5 u := by
  intro R hR
  have key : ∀ (k n : Nat) (x0 x1 x2 x3 x4 x5 : Int) (u : iST), n < k → I n x0 x1 x2 x3 x4 x5 u → R x0 x1 x2 x3 x4 x5 u := by
    intro k
    induction k with
    | zero => intro n x0 x1 x2 x3 x4 x5 u h _; omega
    | succ k ih => intro n x0 x1 x2 x3 x4 x5 u hk hI; exact hR x0 x1 x2 x3 x4 x5 u (hs n x0 x1 x2 x3 x4 x5 u hI R (fun m y0 y1 y2 y3 y4 y5 v hm hv => ih m y0 y1 y2 y3 y4 y5 v (by omega) hv))
  exact key _ n x0 x1 x2 x3 x4 x5 u (Nat.lt_succ_self _) h
theorem lr7 {B : (Int → Int → Int → Int → Int → Int → Int → iST → Prop) → Int → Int → Int → Int → Int → Int → Int → iST → Prop} (I : Nat → Int → Int → Int → Int → Int → Int → Int → iST → Prop) (hs : ∀ (n : Nat) (x0 x1 x2 x3 x4 x5 x6 : Int) (u : iST), I n x0 x1 x2 x3 x4 x5 x6 u → ∀ R : Int → Int → Int → Int → Int → Int → Int → iST → Prop, (∀ (m : Nat) (y0 y1 y2 y3 y4 y5 y6 : Int) (v : iST), m < n → I m y0 y1 y2 y3 y4 y5 y6 v → R y0 y1 y2 y3 y4 y5 y6 v) → B R x0 x1 x2 x3 x4 x5 x6 u) {n : Nat} {x0 x1 x2 x3 x4 x5 x6 : Int} {u : iST} (h : I n x0 x1 x2 x3 x4 x5 x6 u) : ∀ R : Int → Int → Int → Int → Int → Int → Int → iST → Prop, (∀ (x0 x1 x2 x3 x4 x5 x6 : Int) (u : iST), B R x0 x1 x2 x3 x4 x5 x6 u → R x0 x1 x2 x3 x4 x5 x6 u) → R x0 x1 x2 x3 x4 x5 x6 u := by
  intro R hR
  have key : ∀ (k n : Nat) (x0 x1 x2 x3 x4 x5 x6 : Int) (u : iST), n < k → I n x0 x1 x2 x3 x4 x5 x6 u → R x0 x1 x2 x3 x4 x5 x6 u := by
    intro k
    induction k with
    | zero => intro n x0 x1 x2 x3 x4 x5 x6 u h _; omega
    | succ k ih => intro n x0 x1 x2 x3 x4 x5 x6 u hk hI; exact hR x0 x1 x2 x3 x4 x5 x6 u (hs n x0 x1 x2 x3 x4 x5 x6 u hI R (fun m y0 y1 y2 y3 y4 y5 y6 v hm hv => ih m y0 y1 y2 y3 y4 y5 y6 v (by omega) hv))
  exact key _ n x0 x1 x2 x3 x4 x5 x6 u (Nat.lt_succ_self _) h
theorem DI.ext {u v : iST} (h : DI u) (hE : Ext u v) (hS : SameF u v) : DI v := by
  obtain ⟨h1, h2, h3, h4⟩ := h
  obtain ⟨s1, s2, s3, s4, s5⟩ := hS
  have e8 := hE.1.1
  unfold DI
  rw [s1, s2, s3, s4, s5]
  refine ⟨h1, h2, fun d d0 d1 => ?_, fun z => ?_⟩
  · obtain ⟨a, b, c, d, e⟩ := h3 d d0 d1
    exact ⟨a, b, c, by omega, by rw [(hE.2.1 _ (by omega) d).1]; exact e⟩
  · obtain ⟨a, b, c, d, e⟩ := h4 z
    exact ⟨a, by omega, by rw [(hE.2.1 _ (by omega) b).1]; exact c, d, e⟩
def fB (k : Nat) : Bool := decide (k ≤ 11) || (decide (66 ≤ k) && decide (k ≤ 71)) || decide (k = 61)
theorem fT_B {u v : iST} (h : Fx fT u v) : Fx fB u v := h.mono (fun k hk => by simp [fB] at hk; simp [fT]; omega)
theorem SameF.B {u v : iST} (h : Fx fB u v) : SameF u v := SameF.of h rfl rfl rfl rfl rfl
/-- what stands for the variables -/
def SubOk (u : iST) : Prop := 0 ≤ u.1 74 ∧ u.1 74 ≤ 400 ∧ ∀ i, 0 ≤ i → i < u.1 74 → IsT u (u.2.1 73 i)
theorem s_build {x : Int} {Q : iST → Prop} {u : iST} (h0 : 0 ≤ u.1 71) (h1 : u.1 71 < 2400) (h : Q (iI (iA u 70 (u.1 71) x) 71 (u.1 71 + 1))) : w_build x Q u := by
  unfold w_build
  exact rd_i fun _ => bd_i h0 h1 (sw_i (rd_i fun _ => ov_i (show -2147483648 ≤ u.1 71 + 1 by omega) (show u.1 71 + 1 < 2147483648 by omega) (sw_i h)))
def uOpen (u : iST) (o : Int) : iST := iI (iA (iA (iA u 66 (u.1 69) o) 67 (u.1 69) (u.2.1 1 o)) 68 (u.1 69) (u.1 71)) 69 (u.1 69 + 1)
theorem s_openCall {o : Int} {Q : iST → Prop} {u : iST} (o0 : 0 ≤ o) (o1 : o < 452000) (h0 : 0 ≤ u.1 69) (h1 : u.1 69 < 1200) (h : Q (uOpen u o)) : w_openCall o Q u := by
  unfold w_openCall
  exact rd_i fun _ => bd_i h0 h1 (sw_i (rd_i fun _ => bd_i o0 o1 (rd_i fun _ => bd_i h0 h1 (sw_i (rd_i fun _ => rd_i fun _ => bd_i h0 h1 (sw_i (rd_i fun _ => ov_i (show -2147483648 ≤ u.1 69 + 1 by omega) (show u.1 69 + 1 < 2147483648 by omega) (sw_i h))))))))
theorem s_substituted {o : Int} {Q : Int → iST → Prop} {u : iST} (h : SubOk u) (ho : IsT u o) (hq : ∀ x, IsT u x → Q x u) : w_substituted o Q u := by
  obtain ⟨h0, h1, h2⟩ := h
  unfold w_substituted w_substituted_2
  refine lf2 (B := fun R x1 x2 u => w_substituted_2b R Q x1 x2 u) (fun x1 x2 v => v = u ∧ x1 = o ∧ 0 ≤ x2 ∧ x2 ≤ u.1 74) (fun _ x2 _ => (u.1 74 - x2).toNat) ?_ ⟨rfl, rfl, Int.le_refl _, h0⟩
  intro x1 x2 v hI R ih
  obtain ⟨rfl, rfl, p1, p2⟩ := hI
  unfold w_substituted_2b
  exact rd_i fun _ => br_i (fun _ => hq _ ho) fun hc => bd_i p1 (by omega) (rd_i fun _ => br_i (fun _ => ov_i (by omega) (by omega) (ih _ _ _ ⟨rfl, rfl, by omega, by omega⟩ (by omega))) fun _ => bd_i p1 (by omega) (rd_i fun _ => hq _ (h2 x2 p1 (by omega))))
/-- a frame of anew: the call has n terms, m of them are to come; its results begin at b -/
def TopF (u : iST) (k : Int) (b : Int) (n m : Nat) : Prop := 0 ≤ u.2.1 66 k ∧ u.2.1 66 k < u.1 8 ∧ 0 ≤ u.2.1 0 (u.2.1 66 k) ∧ u.2.1 0 (u.2.1 66 k) < u.1 8 ∧ Ar u (u.2.1 0 (u.2.1 66 k)) n ∧ n ≤ 6 ∧ m ≤ n ∧ IsL u (u.2.1 67 k) m ∧ AllE u (IsT u) (u.2.1 67 k) m ∧ u.2.1 68 k = b
def Fr (u : iST) (S0 : Int) : Nat → Int → Int → Int → Int → Prop
  | 0, b, p, q, S => b = 0 ∧ p = 0 ∧ q = 0 ∧ S = S0
  | k + 1, b, p, q, S => ∃ (b' p' q' S' : Int) (n m j : Nat), TopF u k b' n m ∧ j + 1 + m = n ∧ b = b' + j ∧ (∀ i : Nat, i < j → IsT u (u.2.1 70 (b' + i))) ∧ p = p' + (n + 1) + (2 * sumS u (u.2.1 67 k) m - m) ∧ q = q' + 1 + 2 * sumS u (u.2.1 67 k) m ∧ S' ≤ 1 + sumB u b' j + S + sumS u (u.2.1 67 k) m ∧ S' ≤ S0 ∧ Fr u S0 k b' p' q' S'
theorem Fr.r {u : iST} {S0 : Int} (hT : TI u) : ∀ {k : Nat} {b p q S : Int}, Fr u S0 k b p q S → 0 ≤ b ∧ b ≤ p ∧ (k : Int) ≤ p ∧ 0 ≤ q
  | 0, b, p, q, S, ⟨h1, h2, h3, _⟩ => by omega
  | k + 1, b, p, q, S, ⟨b', p', q', S', n, m, j, h1, h2, h3, h4, h5, h6, _, _, h7⟩ => by
    have := Fr.r hT h7
    have hs := sumS_r hT h1.2.2.2.2.2.2.2.2.1
    omega
theorem TopF.ext {u v : iST} (hT : TI u) (h : ExtT u v) {k b : Int} {n m : Nat} (e6 : v.2.1 66 k = u.2.1 66 k) (e7 : v.2.1 67 k = u.2.1 67 k) (e8 : v.2.1 68 k = u.2.1 68 k) (hF : TopF u k b n m) : TopF v k b n m := by
  obtain ⟨a1, a2, a3, a4, a5, a6, a7, a8, a9, a10⟩ := hF
  have hE := h.1
  have := hE.1.1
  unfold TopF
  rw [e6, e7, e8, (hE.2.1 _ a1 a2).1]
  exact ⟨a1, by omega, a3, by omega, h.2.2 _ _ a3 a5, a6, a7, a8.ext hT hE, (a9.ext hE a8).imp (fun y hy => hy.ext hT h), a10⟩
theorem Fr.ext {u v : iST} {S0 : Int} (hT : TI u) (h : ExtT u v) : ∀ {k : Nat} {b p q S : Int}, (∀ i : Nat, i < k → v.2.1 66 i = u.2.1 66 i ∧ v.2.1 67 i = u.2.1 67 i ∧ v.2.1 68 i = u.2.1 68 i) → (∀ i, 0 ≤ i → i < b → v.2.1 70 i = u.2.1 70 i) → Fr u S0 k b p q S → Fr v S0 k b p q S
  | 0, _, _, _, _, _, _, h1 => h1
  | k + 1, b, p, q, S, he, h70, ⟨b', p', q', S', n, m, j, h1, h2, h3, h4, h5, h6, h8, h9, h7⟩ => by
    have e := he k (by omega)
    have hb' := (Fr.r hT h7).1
    have hs : sumS v (u.2.1 67 k) m = sumS u (u.2.1 67 k) m := sumS_xt h h1.2.2.2.2.2.2.2.1 h1.2.2.2.2.2.2.2.2.1
    have hsb : ∀ (j : Nat) (c : Int), 0 ≤ c → c + j ≤ b → (∀ i : Nat, i < j → IsT u (u.2.1 70 (c + i))) → sumB v c j = sumB u c j := by
      intro j
      induction j with
      | zero => intro c _ _ _; rfl
      | succ j ih =>
        intro c c0 c1 hc
        have hc0 := hc 0 (by omega)
        rw [show c + ((0 : Nat) : Int) = c from by omega] at hc0
        show sz v (v.2.1 70 c) + sumB v (c + 1) j = sz u (u.2.1 70 c) + sumB u (c + 1) j
        rw [h70 c c0 (by omega), h.szx hc0, ih (c + 1) (by omega) (by omega) (fun i hi => by
          have := hc (i + 1) (by omega)
          rw [show c + ((i + 1 : Nat) : Int) = c + 1 + i from by omega] at this
          exact this)]
    refine ⟨b', p', q', S', n, m, j, h1.ext hT h e.1 e.2.1 e.2.2, h2, h3, fun i hi => ?_, ?_, ?_, ?_, h9, Fr.ext hT h (fun i hi => he i (by omega)) (fun i i0 i1 => h70 i i0 (by omega)) h7⟩
    · rw [h70 _ (by omega) (by omega)]
      exact (h4 i hi).ext hT h
    · rw [e.2.1, hs]; exact h5
    · rw [e.2.1, hs]; exact h6
    · rw [e.2.1, hs, hsb j b' hb' (by omega) h4]; exact h8
def APost (u : iST) (o : Int) (rp : Prop) (t : Int) (v : iST) : Prop := TI v ∧ ExtT u v ∧ Fx fB u v ∧ v.1 69 = 0 ∧ v.1 71 = 0 ∧ v.1 8 ≤ u.1 8 + 2 * sz u o - 1 ∧ v.1 6 = u.1 6 ∧ v.1 11 = u.1 11 ∧ IsT v t ∧ (rp → sz u o ≤ sz v t) ∧ (t < u.1 8 → v.1 8 = u.1 8) ∧ (v.1 61 = 0 → sz v t ≤ 120 ∧ u.1 61 = 0) ∧ (v.1 61 = u.1 61 ∨ (u.1 61 = 0 ∧ v.1 61 = 4))
theorem IsT.call {u : iST} (hT : TI u) {o : Int} (h : IsT u o) (hc : 0 ≤ u.2.1 0 o ∧ u.2.1 0 o ≠ 2) (hs : sz u o ≤ 120) : ∃ n : Nat, n ≤ 6 ∧ Ar u (u.2.1 0 o) n ∧ IsL u (u.2.1 1 o) n ∧ AllE u (IsT u) (u.2.1 1 o) n ∧ sz u o = 1 + sumS u (u.2.1 1 o) n := by
  obtain ⟨c0, c1, c2⟩ := h.step
  rcases c2 with c2 | c2 | ⟨d1, d2, n, d3, d4, d5, d6, d7⟩
  · omega
  · have := c2.2.1; omega
  · refine ⟨n, d3, d4, d5, d6, ?_⟩
    unfold sz at hs ⊢
    rw [if_pos hc] at hs ⊢
    rw [d7] at hs ⊢
    unfold capS at hs ⊢
    split at hs
    · omega
    · next hh => rw [if_neg hh]
/-- the state within anew -/
def AI (u : iST) (o wh : Int) (N : Nat) (w : iST) : Prop := (TI w ∧ ExtT u w ∧ Fx fB u w ∧ w.1 61 = u.1 61 ∧ w.1 6 = u.1 6 ∧ w.1 11 = u.1 11) ∧ (w.1 8 = u.1 8 ∨ ∃ i, 0 ≤ i ∧ i < w.1 71 ∧ u.1 8 ≤ w.2.1 70 i) ∧ ((w.1 69 = 0 ∧ w.1 71 = 1 ∧ IsT w (w.2.1 70 0) ∧ (wh = -1 → sz u o ≤ sz w (w.2.1 70 0)) ∧ w.1 8 ≤ u.1 8 + 2 * sz u o - 1) ∨ ∃ (k : Nat) (b p q S : Int) (n m j : Nat), w.1 69 = k + 1 ∧ TopF w k b n m ∧ j + m = n ∧ w.1 71 = b + j ∧ (∀ i : Nat, i < j → IsT w (w.2.1 70 (b + i))) ∧ Fr w (if wh = -1 then sz u o else 1) k b p q S ∧ S ≤ 1 + sumB w b j + sumS w (w.2.1 67 k) m ∧ S ≤ (if wh = -1 then sz u o else 1) ∧ w.1 8 + p + (n + 1) + (2 * sumS w (w.2.1 67 k) m - m) ≤ u.1 8 + 2 * sz u o - 1 ∧ (N : Int) = q + 1 + 2 * sumS w (w.2.1 67 k) m)
theorem ExtT.same {u v : iST} (hs : ∀ k, k ≤ 11 → v.1 k = u.1 k ∧ v.2.1 k = u.2.1 k) (hL : v.2.2 = u.2.2) (hF : SameF u v) : ExtT u v := ExtT.of (Ext_eq hs hL) (Szs_eq hs) hF
theorem g_anew {o wh by_ : Int} {Q : Int → iST → Prop} {u : iST} (hT : TI u) (hD : DI u) (hc : u.1 69 = 0) (hb : u.1 71 = 0) (ho : IsT u o) (hs : sz u o ≤ 120) (hsub : SubOk u) (hwh : wh = -1 ∨ IsT u by_) (h8 : u.1 8 + 2 * sz u o ≤ 452000) (hq : ∀ t v, APost u o (wh = -1) t v → Q t v) : w_anew o wh by_ Q u := by
  have h44 := hT.1
  have hsr := ho.szr hT
  have hS0 : 1 ≤ (if wh = -1 then sz u o else 1) ∧ (if wh = -1 then sz u o else 1) ≤ 120 := by split <;> omega
  have begin : ∀ {a : Int} {w : iST} {K : iST → Prop}, TI w → IsT w a → SubOk w → (wh = -1 ∨ IsT w by_) → 0 ≤ w.1 71 → w.1 71 < 2400 → 0 ≤ w.1 69 → w.1 69 < 1200 → (∀ x, IsT w x → (wh = -1 → sz w a ≤ sz w x) → K (iI (iA w 70 (w.1 71) x) 71 (w.1 71 + 1))) → (0 ≤ w.2.1 0 a ∧ w.2.1 0 a ≠ 2 → K (uOpen w a)) → w_beginInstance a wh by_ K w := by
    intro a w K wT wa wS wB w0 w1 w2 w3 k1 k2
    have ar := wa.r
    have w8 := wT.2.1
    unfold w_beginInstance
    refine br_i (fun hne => ?_) (fun he => ?_)
    · refine s_isCall ar.1 (by omega) fun r _ hr => br_i (fun hz => ?_) (fun hz => ?_)
      · have e1 : sz w a = 1 := by unfold sz; rw [if_neg (fun z => hr.mpr z hz)]
        refine s_isVariable ar.1 (by omega) fun r2 _ hr2 => br_i (fun _ => ?_) (fun _ => ?_)
        · unfold w_beginInstance_47
          exact s_build w0 w1 (k1 a wa (fun _ => Int.le_refl _))
        · refine s_substituted wS wa fun x hx => ?_
          unfold w_beginInstance_47
          exact s_build w0 w1 (k1 x hx (fun _ => by have := hx.szr wT; omega))
      · exact s_openCall ar.1 (by omega) w2 w3 (k2 (hr.mp hz))
    · have he : a = wh := by omega
      rcases wB with y | y
      · omega
      · exact s_build w0 w1 (k1 by_ y (fun z => by omega))
  have main : ∀ (N : Nat) (w : iST), AI u o wh N w → w_anew_19 Q wh by_ 0 0 w := by
    intro N w hw
    unfold w_anew_19
    refine lr4 (B := fun R x2 x3 x4 x5 u => w_anew_19b R Q x2 x3 x4 x5 u) (fun N x2 x3 x4 x5 w => x2 = wh ∧ x3 = by_ ∧ x4 = 0 ∧ x5 = 0 ∧ AI u o wh N w) ?_ (n := N) ⟨rfl, rfl, rfl, rfl, hw⟩
    intro N x2 x3 x4 x5 w hI R ih
    obtain ⟨rfl, rfl, rfl, rfl, ⟨wT, wE, wF, w61, w6, w11⟩, wN, hcase⟩ := hI
    have wD : DI w := hD.ext wE.1 (SameF.B wF)
    have w8b := wE.1.1.1
    have w8m := wT.2.1
    have wsub : SubOk w := by
      unfold SubOk
      rw [fx_s wF 74 rfl, fx_a wF 73 rfl]
      exact ⟨hsub.1, hsub.2.1, fun i i0 i1 => (hsub.2.2 i i0 i1).ext hT wE⟩
    have wby : x2 = -1 ∨ IsT w x3 := hwh.elim Or.inl (fun z => Or.inr (z.ext hT wE))
    unfold w_anew_19b
    rcases hcase with ⟨c1, c2, c3, c4, c5⟩ | ⟨k, b, p, q, S, n, m, j, d1, d2, d3, d4, d5, d6, d7, d8, d9, d10⟩
    · refine rd_i fun _ => br_y (by omega) (sw_i (bd_i (by decide) (by decide) (rd_i fun _ => ?_)))
      have hsz := c3.szr wT
      have r0 := c3.r
      have fin : ∀ v : iST, (v = iI w 71 0 ∨ v = iI (iI w 71 0) 61 4) → (v.1 61 = 0 → sz w (w.2.1 70 0) ≤ 120 ∧ u.1 61 = 0) → (v.1 61 = u.1 61 ∨ (u.1 61 = 0 ∧ v.1 61 = 4)) → w_anew_172 Q 0 v := by
        intro v hv hv1 hv2
        have v2 : v.2 = w.2 := by rcases hv with rfl | rfl <;> rfl
        have v1 : ∀ k, k ≠ 71 → k ≠ 61 → v.1 k = w.1 k := fun k k1 k2 => by
          rcases hv with rfl | rfl
          · exact if_neg k1
          · exact (if_neg k2).trans (if_neg k1)
        have v71 : v.1 71 = 0 := by rcases hv with rfl | rfl <;> rfl
        have vt : ∀ k, k ≤ 11 → v.1 k = w.1 k ∧ v.2.1 k = w.2.1 k := fun k hk => ⟨v1 k (by omega) (by omega), by rw [v2]⟩
        have vS : SameF w v := ⟨v1 35 (by decide) (by decide), by rw [v2], by rw [v2], v1 57 (by decide) (by decide), v1 58 (by decide) (by decide)⟩
        have vE : ExtT w v := ExtT.same vt (by rw [v2]) vS
        unfold w_anew_172
        refine bd_i (by decide) (by decide) (rd_i fun _ => ?_)
        rw [v2]
        refine hq _ v ⟨TI_eq wT vt (by rw [v2]), wE.tr hT vE, fun j hj => ?_, ?_, v71, ?_, ?_, ?_, c3.ext wT vE, fun z => ?_, fun z => ?_, fun z => ?_, hv2⟩
        · have hj2 : ¬ j ≤ 11 ∧ ¬ (66 ≤ j ∧ j ≤ 71) ∧ j ≠ 61 := by simp [fB] at hj; omega
          rw [v1 j (by omega) (by omega), v2]
          exact wF j hj
        · rw [v1 69 (by decide) (by decide)]; exact c1
        · rw [v1 8 (by decide) (by decide)]; exact c5
        · rw [v1 6 (by decide) (by decide)]; exact w6
        · rw [v1 11 (by decide) (by decide)]; exact w11
        · rw [vE.szx c3]; exact c4 z
        · rw [v1 8 (by decide) (by decide)]
          rcases wN with wN | ⟨i, i0, i1, i2⟩
          · exact wN
          · have : i = 0 := by omega
            rw [this] at i2
            omega
        · rw [vE.szx c3]; exact hv1 z
      refine s_sizeOf (u := iI w 71 0) r0.1 (show w.2.1 70 0 < 452000 by omega) fun _ => ?_
      show br (sz w (w.2.1 70 0) ≤ 120) _ _
      refine br_i (fun hle => fin _ (Or.inl rfl) (fun z => ⟨hle, by rw [← w61]; exact z⟩) (Or.inl w61)) (fun hgt => s_fail fun v hv hv0 hv1 => ?_)
      have e61 : (iI w 71 0).1 61 = u.1 61 := w61
      refine fin v (hv.elim Or.inl (fun z => Or.inr z)) (fun z => ?_) ?_
      · by_cases h0 : u.1 61 = 0
        · have := hv0 (e61.trans h0); omega
        · have := hv1 (fun y => h0 (e61.symm.trans y))
          rw [this, e61] at z
          exact absurd z h0
      · by_cases h0 : u.1 61 = 0
        · exact Or.inr ⟨h0, hv0 (e61.trans h0)⟩
        · have := hv1 (fun y => h0 (e61.symm.trans y))
          rw [this]
          exact Or.inl e61
    · obtain ⟨t1, t2, t3, t4, t5, t6, t7, t8, t9, t10⟩ := d2
      have hfr := d6.r wT
      have hsm := sumS_r wT t9
      have hk : (k : Int) < 1199 := by omega
      refine rd_i fun _ => br_n (by omega) (rd_i fun _ => ov_i (by omega) (by omega) ?_)
      rw [show w.1 69 - 1 = (k : Int) from by omega]
      refine bd_i (by omega) (by omega) (rd_i fun _ => br_i (fun hne => ?_) (fun hz => ?_))
      · -- the next term of the call
        obtain ⟨m', rfl⟩ : ∃ m', m = m' + 1 := by
          cases m with
          | zero => exact absurd t8 hne
          | succ m' => exact ⟨m', rfl⟩
        obtain ⟨l1, l2, l3, l4⟩ := t8
        obtain ⟨e1, e2⟩ := t9
        have hp := wT.pair l1 l2 l3
        have ha := e1
        have har := ha.r
        have hsa := ha.szr wT
        have hs2 := sumS_r wT e2
        have esum : sumS w (w.2.1 67 k) (m' + 1) = sz w (w.2.1 0 (w.2.1 67 k)) + sumS w (w.2.1 1 (w.2.1 67 k)) m' := rfl
        rw [esum] at d7 d9 d10
        refine bd_i (by omega) (by omega) (rd_i fun _ => bd_i l1 (by omega) (rd_i fun _ => bd_i (by omega) (by omega) (rd_i fun _ => bd_i l1 (by omega) (rd_i fun _ => bd_i (by omega) (by omega) (sw_i ?_)))))
        generalize hrr : w.2.1 67 (k : Int) = rr at *
        generalize haa : w.2.1 0 rr = a at *
        generalize hw1 : iA w 67 (k : Int) (w.2.1 1 rr) = w1
        have x67 : ∀ i, w1.2.1 67 i = if i = (k : Int) then w.2.1 1 rr else w.2.1 67 i := fun i => by rw [← hw1]; rfl
        have xg : ∀ g, g ≠ 67 → w1.2.1 g = w.2.1 g := fun g hg => by rw [← hw1]; exact if_neg hg
        have xs : w1.1 = w.1 := by rw [← hw1]; rfl
        have xL : w1.2.2 = w.2.2 := by rw [← hw1]; rfl
        have xt : ∀ k, k ≤ 11 → w1.1 k = w.1 k ∧ w1.2.1 k = w.2.1 k := fun k hk => ⟨by rw [xs], xg k (by omega)⟩
        have xS : SameF w w1 := ⟨by rw [xs], xg 36 (by decide), xg 37 (by decide), by rw [xs], by rw [xs]⟩
        have xE : ExtT w w1 := ExtT.same xt xL xS
        have xT : TI w1 := TI_eq wT xt xL
        have xsub : SubOk w1 := by
          unfold SubOk
          rw [xs, xg 73 (by decide)]
          exact ⟨wsub.1, wsub.2.1, fun i i0 i1 => (wsub.2.2 i i0 i1).ext wT xE⟩
        have esz : sz w1 a = sz w a := xE.szx ha
        refine begin xT (ha.ext wT xE) xsub (wby.elim Or.inl (fun z => Or.inr (z.ext wT xE))) (by rw [xs]; omega) (by rw [xs]; omega) (by rw [xs]; omega) (by rw [xs]; omega) (fun x hx hxs => ?_) (fun hcall => ?_)
        · -- a result at once
          generalize hw2 : iI (iA w1 70 (w1.1 71) x) 71 (w1.1 71 + 1) = w2
          have y70 : ∀ i, w2.2.1 70 i = if i = b + j then x else w.2.1 70 i := fun i => by
            rw [← hw2]
            show (if i = w1.1 71 then x else w1.2.1 70 i) = _
            rw [xs, d4, xg 70 (by decide)]
          have yg : ∀ g, g ≠ 67 → g ≠ 70 → w2.2.1 g = w.2.1 g := fun g g1 g2 => by rw [← hw2]; exact (if_neg g2).trans (xg g g1)
          have y67 : ∀ i, w2.2.1 67 i = if i = (k : Int) then w.2.1 1 rr else w.2.1 67 i := fun i => by rw [← hw2]; exact x67 i
          have ys : ∀ k, k ≠ 71 → w2.1 k = w.1 k := fun k hk => by rw [← hw2]; exact (if_neg hk).trans (congrFun xs k)
          have y71 : w2.1 71 = b + j + 1 := by rw [← hw2]; show w1.1 71 + 1 = _; rw [xs, d4]
          have yL : w2.2.2 = w.2.2 := by rw [← hw2]; exact xL
          have yt : ∀ k, k ≤ 11 → w2.1 k = w.1 k ∧ w2.2.1 k = w.2.1 k := fun k hk => ⟨ys k (by omega), yg k (by omega) (by omega)⟩
          have yS : SameF w w2 := ⟨ys 35 (by decide), yg 36 (by decide) (by decide), yg 37 (by decide) (by decide), ys 57 (by decide), ys 58 (by decide)⟩
          have yE : ExtT w w2 := ExtT.same yt yL yS
          have yT : TI w2 := TI_eq wT yt yL
          have hxw : IsT w x := by
            have : ExtT w1 w := ExtT.same (fun k hk => ⟨(xt k hk).1.symm, (xt k hk).2.symm⟩) xL.symm ⟨xS.1.symm, xS.2.1.symm, xS.2.2.1.symm, xS.2.2.2.1.symm, xS.2.2.2.2.symm⟩
            exact hx.ext xT this
          have hxsz : sz w2 x = sz w x := yE.szx hxw
          have hxs2 : x2 = -1 → sz w a ≤ sz w x := fun z => by rw [← esz, ← xE.szx hxw]; exact hxs z
          have hsumB : sumB w2 b j = sumB w b j := by
            have : ∀ (i : Nat) (c : Int), c + i ≤ b + j → b ≤ c → (∀ r : Nat, r < i → IsT w (w.2.1 70 (c + r))) → sumB w2 c i = sumB w c i := by
              intro i
              induction i with
              | zero => intro c _ _ _; rfl
              | succ i ihh =>
                intro c c1 c2 c3
                have c30 := c3 0 (by omega)
                rw [show c + ((0 : Nat) : Int) = c from by omega] at c30
                show sz w2 (w2.2.1 70 c) + sumB w2 (c + 1) i = sz w (w.2.1 70 c) + sumB w (c + 1) i
                rw [y70, if_neg (by omega), yE.szx c30, ihh (c + 1) (by omega) (by omega) (fun r hr => by
                  have := c3 (r + 1) (by omega)
                  rw [show c + ((r + 1 : Nat) : Int) = c + 1 + r from by omega] at this
                  exact this)]
            exact this j b (Int.le_refl _) (Int.le_refl _) d5
          have hB1 : sumB w2 b (j + 1) = sumB w b j + sz w x := by
            rw [sumB_snoc, hsumB, y70, if_pos rfl, hxsz]
          have hL2 : sumS w2 (w2.2.1 67 (k : Int)) m' = sumS w (w.2.1 1 rr) m' := by
            rw [y67, if_pos rfl]
            exact sumS_xt yE l4 e2
          refine ih (N - 2 * (sz w a).toNat) _ _ _ _ _ (by omega) ⟨rfl, rfl, rfl, rfl, ⟨yT, wE.tr hT yE, wF.tr ?_, by rw [ys 61 (by decide)]; exact w61, by rw [ys 6 (by decide)]; exact w6, by rw [ys 11 (by decide)]; exact w11⟩, ?_, Or.inr ⟨k, b, p, q, S, n, m', j + 1, by rw [ys 69 (by decide)]; exact d1, ⟨?_, ?_, ?_, ?_, ?_, t6, by omega, ?_, ?_, ?_⟩, by omega, by rw [y71]; omega, fun i hi => ?_, ?_, ?_, d8, ?_, ?_⟩⟩
          · intro g hg
            have hg2 : g ≠ 67 ∧ g ≠ 70 ∧ g ≠ 71 := by simp [fB] at hg; omega
            exact ⟨ys g hg2.2.2, yg g hg2.1 hg2.2.1⟩
          · rw [ys 8 (by decide), y71]
            rcases wN with wN | ⟨i, i0, i1, i2⟩
            · exact Or.inl wN
            · exact Or.inr ⟨i, i0, by omega, by rw [y70, if_neg (by omega)]; exact i2⟩
          · rw [yg 66 (by decide) (by decide)]; exact t1
          · rw [yg 66 (by decide) (by decide), ys 8 (by decide)]; exact t2
          · rw [yg 66 (by decide) (by decide), yg 0 (by decide) (by decide)]; exact t3
          · rw [yg 66 (by decide) (by decide), yg 0 (by decide) (by decide), ys 8 (by decide)]; exact t4
          · rw [yg 66 (by decide) (by decide), yg 0 (by decide) (by decide)]; exact yS.ar t5
          · rw [y67, if_pos rfl]; exact l4.ext wT yE.1
          · rw [y67, if_pos rfl]; exact (e2.ext yE.1 l4).imp (fun y hy => hy.ext wT yE)
          · rw [yg 68 (by decide) (by decide)]; exact t10
          · rw [y70]
            split
            · exact hxw.ext wT yE
            · next hne2 => exact (d5 i (by omega)).ext wT yE
          · refine d6.ext wT yE (fun i hi => ⟨by rw [yg 66 (by decide) (by decide)], by rw [y67, if_neg (by omega)], by rw [yg 68 (by decide) (by decide)]⟩) (fun i i0 i1 => by rw [y70, if_neg (by omega)])
          · rw [hB1, hL2]
            by_cases hm1 : x2 = -1
            · have := hxs2 hm1; omega
            · rw [if_neg hm1] at d8
              have := hxw.szr wT
              have := (sumB_r wT d5).1
              omega
          · rw [hL2, ys 8 (by decide)]; omega
          · rw [hL2]; omega
        · -- a call within
          rw [xg 0 (by decide)] at hcall
          have hsa120 : sz w a ≤ 120 := by omega
          obtain ⟨n2, b1, b2, b3, b4, b5⟩ := ha.call wT hcall hsa120
          have hs3 := sumS_r wT b4
          generalize hw2 : uOpen w1 a = w2
          have y66 : ∀ i, w2.2.1 66 i = if i = (k : Int) + 1 then a else w.2.1 66 i := fun i => by
            rw [← hw2]
            show (if i = w1.1 69 then a else w1.2.1 66 i) = _
            rw [xs, d1, xg 66 (by decide)]
          have y67 : ∀ i, w2.2.1 67 i = if i = (k : Int) + 1 then w.2.1 1 a else if i = (k : Int) then w.2.1 1 rr else w.2.1 67 i := fun i => by
            rw [← hw2]
            show (if i = w1.1 69 then w1.2.1 1 a else w1.2.1 67 i) = _
            rw [xs, d1, xg 1 (by decide), x67]
          have y68 : ∀ i, w2.2.1 68 i = if i = (k : Int) + 1 then b + j else w.2.1 68 i := fun i => by
            rw [← hw2]
            show (if i = w1.1 69 then w1.1 71 else w1.2.1 68 i) = _
            rw [xs, d1, d4, xg 68 (by decide)]
          have yg : ∀ g, g ≠ 66 → g ≠ 67 → g ≠ 68 → w2.2.1 g = w.2.1 g := fun g g1 g2 g3 => by rw [← hw2]; exact (((if_neg g3).trans (if_neg g2)).trans (if_neg g1)).trans (xg g g2)
          have ys : ∀ k, k ≠ 69 → w2.1 k = w.1 k := fun k hk => by rw [← hw2]; exact (if_neg hk).trans (congrFun xs k)
          have y69 : w2.1 69 = k + 1 + 1 := by rw [← hw2]; show w1.1 69 + 1 = _; rw [xs, d1]
          have yL : w2.2.2 = w.2.2 := by rw [← hw2]; exact xL
          have yt : ∀ k, k ≤ 11 → w2.1 k = w.1 k ∧ w2.2.1 k = w.2.1 k := fun k hk => ⟨ys k (by omega), yg k (by omega) (by omega) (by omega)⟩
          have yS : SameF w w2 := ⟨ys 35 (by decide), yg 36 (by decide) (by decide) (by decide), yg 37 (by decide) (by decide) (by decide), ys 57 (by decide), ys 58 (by decide)⟩
          have yE : ExtT w w2 := ExtT.same yt yL yS
          have yT : TI w2 := TI_eq wT yt yL
          have y70 : w2.2.1 70 = w.2.1 70 := yg 70 (by decide) (by decide) (by decide)
          have hsumB : sumB w2 b j = sumB w b j := sumB_ext yE y70 d5
          have e67k : w2.2.1 67 (k : Int) = w.2.1 1 rr := by rw [y67, if_neg (by omega), if_pos rfl]
          have e67n : w2.2.1 67 ((k + 1 : Nat) : Int) = w.2.1 1 a := by rw [y67, if_pos (by omega)]
          have hLk : sumS w2 (w.2.1 1 rr) m' = sumS w (w.2.1 1 rr) m' := sumS_xt yE l4 e2
          have hLn : sumS w2 (w.2.1 1 a) n2 = sumS w (w.2.1 1 a) n2 := sumS_xt yE b3 b4
          have hfr2 : Fr w2 (if x2 = -1 then sz u o else 1) (k + 1) (b + j) (p + (n + 1) + (2 * sumS w (w.2.1 1 rr) m' - m')) (q + 1 + 2 * sumS w (w.2.1 1 rr) m') (if x2 = -1 then sz w a else 1) := by
            refine ⟨b, p, q, S, n, m', j, ⟨?_, ?_, ?_, ?_, ?_, t6, by omega, ?_, ?_, ?_⟩, by omega, rfl, fun i hi => ?_, by rw [e67k, hLk], by rw [e67k, hLk], ?_, d8, d6.ext wT yE (fun i hi => ⟨by rw [y66, if_neg (by omega)], by rw [y67, if_neg (by omega), if_neg (by omega)], by rw [y68, if_neg (by omega)]⟩) (fun i i0 i1 => by rw [y70])⟩
            · rw [y66, if_neg (by omega)]; exact t1
            · rw [y66, if_neg (by omega), ys 8 (by decide)]; exact t2
            · rw [y66, if_neg (by omega), yg 0 (by decide) (by decide) (by decide)]; exact t3
            · rw [y66, if_neg (by omega), yg 0 (by decide) (by decide) (by decide), ys 8 (by decide)]; exact t4
            · rw [y66, if_neg (by omega), yg 0 (by decide) (by decide) (by decide)]; exact yS.ar t5
            · rw [e67k]; exact l4.ext wT yE.1
            · rw [e67k]; exact (e2.ext yE.1 l4).imp (fun y hy => hy.ext wT yE)
            · rw [y68, if_neg (by omega)]; exact t10
            · rw [y70]; exact (d5 i hi).ext wT yE
            · rw [e67k, hLk, hsumB]
              split
              · omega
              · next hm1 =>
                rw [if_neg hm1] at d8
                have := (sumB_r wT d5).1
                omega
          refine ih (N - 1) _ _ _ _ _ (by omega) ⟨rfl, rfl, rfl, rfl, ⟨yT, wE.tr hT yE, wF.tr ?_, by rw [ys 61 (by decide)]; exact w61, by rw [ys 6 (by decide)]; exact w6, by rw [ys 11 (by decide)]; exact w11⟩, ?_, Or.inr ⟨k + 1, b + j, _, _, _, n2, n2, 0, by rw [y69]; omega, ⟨?_, ?_, ?_, ?_, ?_, b1, Nat.le_refl _, ?_, ?_, ?_⟩, by omega, by rw [ys 71 (by decide)]; omega, fun i hi => by omega, hfr2, ?_, ?_, ?_, ?_⟩⟩
          · intro g hg
            have hg2 : g ≠ 66 ∧ g ≠ 67 ∧ g ≠ 68 ∧ g ≠ 69 := by simp [fB] at hg; omega
            exact ⟨ys g hg2.2.2.2, yg g hg2.1 hg2.2.1 hg2.2.2.1⟩
          · rw [ys 8 (by decide), ys 71 (by decide), y70]; exact wN
          · rw [y66, if_pos (by omega)]; exact har.1
          · rw [y66, if_pos (by omega), ys 8 (by decide)]; exact har.2
          · rw [y66, if_pos (by omega), yg 0 (by decide) (by decide) (by decide)]; exact hcall.1
          · rw [y66, if_pos (by omega), yg 0 (by decide) (by decide) (by decide), ys 8 (by decide)]
            have := wT.pair har.1 har.2 hcall.1
            omega
          · rw [y66, if_pos (by omega), yg 0 (by decide) (by decide) (by decide)]; exact yS.ar b2
          · rw [e67n]; exact b3.ext wT yE.1
          · rw [e67n]; exact (b4.ext yE.1 b3).imp (fun y hy => hy.ext wT yE)
          · rw [y68, if_pos (by omega)]
          · rw [e67n, hLn]
            show _ ≤ 1 + 0 + _
            split <;> omega
          · split
            · omega
            · omega
          · rw [e67n, hLn, ys 8 (by decide)]; omega
          · rw [e67n, hLn]; omega
      · -- the call is made
        have hz : w.2.1 67 (k : Int) = 0 := by omega
        have em : m = 0 := by
          cases m with
          | zero => rfl
          | succ m' =>
            have := t8.2.2.1
            rw [hz] at this
            have := wT.2.2.2.2.2.2.2.2.1 0 (by decide) (by decide)
            omega
        subst em
        have ej : j = n := by omega
        subst ej
        have es0 : sumS w (w.2.1 67 (k : Int)) 0 = 0 := rfl
        rw [es0] at d7 d9 d10
        refine rd_i fun _ => ov_i (by omega) (by omega) (sw_i (bd_i (by omega) (by omega) (rd_i fun _ => bd_i t1 (show w.2.1 66 (k : Int) < 452000 by omega) (rd_i fun _ => bd_i (by omega) (by omega) (rd_i fun _ => ?_)))))
        show w_callFrom (w.2.1 0 (w.2.1 66 (k : Int))) (w.2.1 68 (k : Int)) _ (iI w 69 (w.1 69 - 1))
        rw [t10]
        generalize hw1 : iI w 69 (w.1 69 - 1) = w1
        have x2s : w1.2 = w.2 := by rw [← hw1]; rfl
        have xs : ∀ k, k ≠ 69 → w1.1 k = w.1 k := fun k hk => by rw [← hw1]; exact if_neg hk
        have x69 : w1.1 69 = k := by rw [← hw1]; show w.1 69 - 1 = _; omega
        have xt : ∀ k, k ≤ 11 → w1.1 k = w.1 k ∧ w1.2.1 k = w.2.1 k := fun k hk => ⟨xs k (by omega), by rw [x2s]⟩
        have xS : SameF w w1 := ⟨xs 35 (by decide), by rw [x2s], by rw [x2s], xs 57 (by decide), xs 58 (by decide)⟩
        have xE : ExtT w w1 := ExtT.same xt (by rw [x2s]) xS
        have xT : TI w1 := TI_eq wT xt (by rw [x2s])
        have xD : DI w1 := wD.ext xE.1 xS
        have x70 : w1.2.1 70 = w.2.1 70 := by rw [x2s]
        refine g_callFrom (n := j) xT xD (by omega) (by rw [xs 71 (by decide)]; exact d4) (by rw [xs 71 (by decide)]; omega) t6 (fun i hi => by rw [x70]; exact (d5 i hi).ext wT xE) t3 (by rw [xs 8 (by decide)]; exact t4) (xS.ar t5) (by rw [xs 8 (by decide)]; omega) fun t z hz2 => ?_
        obtain ⟨z1, z2, z3, z4, z5, z6, z7, z8, z9, z10, z11, z12, z13⟩ := hz2
        have zz : ∀ g, 12 ≤ g → g ≠ 69 → z.1 g = w.1 g ∧ z.2.1 g = w.2.1 g := fun g hg g1 => by
          have := z3 g (show fT g = false by simp [fT]; omega)
          exact ⟨this.1.trans (xs g g1), this.2.trans (by rw [x2s])⟩
        have za : ∀ g, 12 ≤ g → z.2.1 g = w.2.1 g := fun g hg => (z3 g (show fT g = false by simp [fT]; omega)).2.trans (by rw [x2s])
        have zE : ExtT w z := xE.tr wT z2
        rw [za 68 (by decide), t10]
        refine bd_i (by omega) (by omega) (rd_i fun _ => sw_i ?_)
        refine s_build (u := iI z 71 b) hfr.1 (show b < 2400 by omega) ?_
        show R x2 x3 0 0 (iI (iA (iI z 71 b) 70 b t) 71 (b + 1))
        generalize hw2 : iI (iA (iI z 71 b) 70 b t) 71 (b + 1) = w2
        have y70 : ∀ i, w2.2.1 70 i = if i = b then t else w.2.1 70 i := fun i => by
          rw [← hw2]
          show (if i = b then t else z.2.1 70 i) = _
          rw [za 70 (by decide)]
        have yg : ∀ g, g ≠ 70 → w2.2.1 g = z.2.1 g := fun g hg => by rw [← hw2]; exact if_neg hg
        have ys : ∀ g, g ≠ 71 → w2.1 g = z.1 g := fun g hg => by rw [← hw2]; exact (if_neg hg).trans (if_neg hg)
        have y71 : w2.1 71 = b + 1 := by rw [← hw2]; rfl
        have yL : w2.2.2 = z.2.2 := by rw [← hw2]; rfl
        have yt : ∀ k, k ≤ 11 → w2.1 k = z.1 k ∧ w2.2.1 k = z.2.1 k := fun k hk => ⟨ys k (by omega), yg k (by omega)⟩
        have yS : SameF z w2 := ⟨ys 35 (by decide), yg 36 (by decide), yg 37 (by decide), ys 57 (by decide), ys 58 (by decide)⟩
        have yE0 : ExtT z w2 := ExtT.same yt yL yS
        have yE : ExtT w w2 := zE.tr wT yE0
        have yT : TI w2 := TI_eq z1 yt yL
        have y8 : w2.1 8 ≤ w.1 8 + j + 1 := by rw [ys 8 (by decide), ← xs 8 (by decide)]; exact z4
        have y8b : w.1 8 ≤ w2.1 8 := yE.1.1.1
        have y69 : w2.1 69 = k := by rw [ys 69 (by decide), (z3 69 rfl).1]; exact x69
        have ht2 : IsT w2 t := z7.ext z1 yE0
        have hsumB1 : sumB w1 b j = sumB w b j := sumB_ext xE x70 d5
        have htsz : S ≤ sz w2 t := by
          rw [yE0.szx z7, z9, hsumB1]
          unfold capS
          split
          · omega
          · omega
        have hF : Fx fB w w2 := by
          intro g hg
          have hg2 : ¬ g ≤ 11 ∧ g ≠ 69 ∧ g ≠ 70 ∧ g ≠ 71 := by simp [fB] at hg; omega
          rw [ys g hg2.2.2.2, yg g hg2.2.2.1]
          exact zz g (by omega) hg2.2.1
        have common : (TI w2 ∧ ExtT u w2 ∧ Fx fB u w2 ∧ w2.1 61 = u.1 61 ∧ w2.1 6 = u.1 6 ∧ w2.1 11 = u.1 11) := ⟨yT, wE.tr hT yE, wF.tr hF, by rw [ys 61 (by decide), (zz 61 (by decide) (by decide)).1]; exact w61, by rw [ys 6 (by decide), z5, xs 6 (by decide)]; exact w6, by rw [ys 11 (by decide), z6, xs 11 (by decide)]; exact w11⟩
        have newn : w2.1 8 = u.1 8 ∨ ∃ i, 0 ≤ i ∧ i < w2.1 71 ∧ u.1 8 ≤ w2.2.1 70 i := by
          by_cases hnew : t < w.1 8
          · have e8 : w2.1 8 = w.1 8 := by rw [ys 8 (by decide), ← xs 8 (by decide)]; exact z10 (by rw [xs 8 (by decide)]; exact hnew)
            rcases wN with wN | ⟨i, i0, i1, i2⟩
            · exact Or.inl (e8.trans wN)
            · by_cases hib : i < b
              · exact Or.inr ⟨i, i0, by omega, by rw [y70, if_neg (by omega)]; exact i2⟩
              · refine Or.inr ⟨b, hfr.1, by omega, ?_⟩
                rw [y70, if_pos rfl]
                obtain ⟨i', hi'⟩ : ∃ i' : Nat, i = b + i' := ⟨(i - b).toNat, by omega⟩
                have := z13 i' (by omega)
                rw [x70, ← hi'] at this
                omega
          · exact Or.inr ⟨b, hfr.1, by omega, by rw [y70, if_pos rfl]; omega⟩
        cases k with
        | zero =>
          obtain ⟨f1, f2, f3, f4⟩ := d6
          refine ih (N - 1) _ _ _ _ _ (by omega) ⟨rfl, rfl, rfl, rfl, common, newn, Or.inl ⟨by rw [y69]; rfl, by rw [y71]; omega, ?_, fun hm1 => ?_, by omega⟩⟩
          · rw [y70, if_pos (by omega)]; exact ht2
          · rw [y70, if_pos (by omega)]
            rw [f4, if_pos hm1] at htsz
            exact htsz
        | succ k =>
          obtain ⟨b', p', q', S', n', m', j', f1, f2, f3, f4, f5, f6, f7, f7a, f8⟩ := d6
          have fr' := f8.r wT
          have g66 : w2.2.1 66 = w.2.1 66 := by rw [yg 66 (by decide), za 66 (by decide)]
          have g67 : w2.2.1 67 = w.2.1 67 := by rw [yg 67 (by decide), za 67 (by decide)]
          have g68 : w2.2.1 68 = w.2.1 68 := by rw [yg 68 (by decide), za 68 (by decide)]
          have hLk : sumS w2 (w.2.1 67 (k : Int)) m' = sumS w (w.2.1 67 (k : Int)) m' := sumS_xt yE f1.2.2.2.2.2.2.2.1 f1.2.2.2.2.2.2.2.2.1
          have hsumB : sumB w2 b' j' = sumB w b' j' := by
            have : ∀ (i : Nat) (c : Int), c + i ≤ b → (∀ r : Nat, r < i → IsT w (w.2.1 70 (c + r))) → sumB w2 c i = sumB w c i := by
              intro i
              induction i with
              | zero => intro c _ _; rfl
              | succ i ihh =>
                intro c c1 c3
                have c30 := c3 0 (by omega)
                rw [show c + ((0 : Nat) : Int) = c from by omega] at c30
                show sz w2 (w2.2.1 70 c) + sumB w2 (c + 1) i = sz w (w.2.1 70 c) + sumB w (c + 1) i
                rw [y70, if_neg (by omega), yE.szx c30, ihh (c + 1) (by omega) (fun r hr => by
                  have := c3 (r + 1) (by omega)
                  rw [show c + ((r + 1 : Nat) : Int) = c + 1 + r from by omega] at this
                  exact this)]
            exact this j' b' (by omega) f4
          have hB1 : sumB w2 b' (j' + 1) = sumB w b' j' + sz w2 t := by
            rw [sumB_snoc, hsumB, y70, if_pos (by omega)]
          refine ih (N - 1) _ _ _ _ _ (by omega) ⟨rfl, rfl, rfl, rfl, common, newn, Or.inr ⟨k, b', p', q', S', n', m', j' + 1, by rw [y69]; omega, f1.ext wT yE (by rw [g66]) (by rw [g67]) (by rw [g68]), by omega, by rw [y71]; omega, fun i hi => ?_, f8.ext wT yE (fun i hi => ⟨by rw [g66], by rw [g67], by rw [g68]⟩) (fun i i0 i1 => by rw [y70, if_neg (by omega)]), ?_, f7a, ?_, ?_⟩⟩
          · rw [y70]
            split
            · exact ht2
            · exact (f4 i (by omega)).ext wT yE
          · rw [hB1, g67, hLk]; omega
          · rw [g67, hLk]; omega
          · rw [g67, hLk]; omega
  unfold w_anew
  refine rd_i fun _ => rd_i fun _ => ?_
  rw [hc, hb]
  refine begin hT ho hsub hwh (by omega) (by omega) (by omega) (by omega) (fun x hx hxs => ?_) (fun hcall => ?_)
  · generalize hw2 : iI (iA u 70 (u.1 71) x) 71 (u.1 71 + 1) = w2
    have y70 : ∀ i, w2.2.1 70 i = if i = 0 then x else u.2.1 70 i := fun i => by
      rw [← hw2]
      show (if i = u.1 71 then x else u.2.1 70 i) = _
      rw [hb]
    have yg : ∀ g, g ≠ 70 → w2.2.1 g = u.2.1 g := fun g hg => by rw [← hw2]; exact if_neg hg
    have ys : ∀ k, k ≠ 71 → w2.1 k = u.1 k := fun k hk => by rw [← hw2]; exact if_neg hk
    have y71 : w2.1 71 = 1 := by rw [← hw2]; show u.1 71 + 1 = 1; omega
    have yL : w2.2.2 = u.2.2 := by rw [← hw2]; rfl
    have yt : ∀ k, k ≤ 11 → w2.1 k = u.1 k ∧ w2.2.1 k = u.2.1 k := fun k hk => ⟨ys k (by omega), yg k (by omega)⟩
    have yS : SameF u w2 := ⟨ys 35 (by decide), yg 36 (by decide), yg 37 (by decide), ys 57 (by decide), ys 58 (by decide)⟩
    have yE : ExtT u w2 := ExtT.same yt yL yS
    refine main 0 w2 ⟨⟨TI_eq hT yt yL, yE, ?_, ys 61 (by decide), ys 6 (by decide), ys 11 (by decide)⟩, Or.inl (ys 8 (by decide)), Or.inl ⟨(ys 69 (by decide)).trans hc, y71, ?_, fun z => ?_, by rw [ys 8 (by decide)]; omega⟩⟩
    · rw [← hw2]; exact (Fx_A (k := 70) rfl).tr (Fx_I (k := 71) rfl)
    · rw [y70, if_pos rfl]; exact hx.ext hT yE
    · rw [y70, if_pos rfl, yE.szx hx]; exact hxs z
  · obtain ⟨n2, b1, b2, b3, b4, b5⟩ := ho.call hT hcall hs
    have hs3 := sumS_r hT b4
    generalize hw2 : uOpen u o = w2
    have y66 : ∀ i, w2.2.1 66 i = if i = 0 then o else u.2.1 66 i := fun i => by
      rw [← hw2]
      show (if i = u.1 69 then o else u.2.1 66 i) = _
      rw [hc]
    have y67 : ∀ i, w2.2.1 67 i = if i = 0 then u.2.1 1 o else u.2.1 67 i := fun i => by
      rw [← hw2]
      show (if i = u.1 69 then u.2.1 1 o else u.2.1 67 i) = _
      rw [hc]
    have y68 : ∀ i, w2.2.1 68 i = if i = 0 then 0 else u.2.1 68 i := fun i => by
      rw [← hw2]
      show (if i = u.1 69 then u.1 71 else u.2.1 68 i) = _
      rw [hc, hb]
    have yg : ∀ g, g ≠ 66 → g ≠ 67 → g ≠ 68 → w2.2.1 g = u.2.1 g := fun g g1 g2 g3 => by rw [← hw2]; exact ((if_neg g3).trans (if_neg g2)).trans (if_neg g1)
    have ys : ∀ k, k ≠ 69 → w2.1 k = u.1 k := fun k hk => by rw [← hw2]; exact if_neg hk
    have y69 : w2.1 69 = 1 := by rw [← hw2]; show u.1 69 + 1 = 1; omega
    have yL : w2.2.2 = u.2.2 := by rw [← hw2]; rfl
    have yt : ∀ k, k ≤ 11 → w2.1 k = u.1 k ∧ w2.2.1 k = u.2.1 k := fun k hk => ⟨ys k (by omega), yg k (by omega) (by omega) (by omega)⟩
    have yS : SameF u w2 := ⟨ys 35 (by decide), yg 36 (by decide) (by decide) (by decide), yg 37 (by decide) (by decide) (by decide), ys 57 (by decide), ys 58 (by decide)⟩
    have yE : ExtT u w2 := ExtT.same yt yL yS
    have e67 : w2.2.1 67 ((0 : Nat) : Int) = u.2.1 1 o := by rw [y67, if_pos (by omega)]
    have hLn : sumS w2 (u.2.1 1 o) n2 = sumS u (u.2.1 1 o) n2 := sumS_xt yE b3 b4
    have hor := ho.r
    refine main (1 + 2 * sumS u (u.2.1 1 o) n2).toNat w2 ⟨⟨TI_eq hT yt yL, yE, ?_, ys 61 (by decide), ys 6 (by decide), ys 11 (by decide)⟩, Or.inl (ys 8 (by decide)), Or.inr ⟨0, 0, 0, 0, (if wh = -1 then sz u o else 1), n2, n2, 0, by rw [y69]; rfl, ⟨?_, ?_, ?_, ?_, ?_, b1, Nat.le_refl _, ?_, ?_, ?_⟩, by omega, by rw [ys 71 (by decide)]; omega, fun i hi => by omega, ⟨rfl, rfl, rfl, rfl⟩, ?_, Int.le_refl _, ?_, ?_⟩⟩
    · rw [← hw2]; exact (((Fx_A (k := 66) rfl).tr (Fx_A (k := 67) rfl)).tr (Fx_A (k := 68) rfl)).tr (Fx_I (k := 69) rfl)
    · rw [y66, if_pos (by omega)]; exact hor.1
    · rw [y66, if_pos (by omega), ys 8 (by decide)]; exact hor.2
    · rw [y66, if_pos (by omega), yg 0 (by decide) (by decide) (by decide)]; exact hcall.1
    · rw [y66, if_pos (by omega), yg 0 (by decide) (by decide) (by decide), ys 8 (by decide)]
      have := hT.pair hor.1 hor.2 hcall.1
      omega
    · rw [y66, if_pos (by omega), yg 0 (by decide) (by decide) (by decide)]; exact yS.ar b2
    · rw [e67]; exact b3.ext hT yE.1
    · rw [e67]; exact (b4.ext yE.1 b3).imp (fun y hy => hy.ext hT yE)
    · rw [y68, if_pos (by omega)]
    · rw [e67, hLn]
      show _ ≤ 1 + 0 + _
      split <;> omega
    · rw [e67, hLn, ys 8 (by decide)]; omega
    · rw [e67, hLn]; omega
theorem g_instance {o : Int} {Q : Int → iST → Prop} {u : iST} (hT : TI u) (hD : DI u) (hc : u.1 69 = 0) (hb : u.1 71 = 0) (ho : IsT u o) (hs : sz u o ≤ 120) (hsub : SubOk u) (h8 : u.1 8 + 2 * sz u o ≤ 452000) (hq : ∀ t v, APost u o True t v → Q t v) : w_instance o Q u := by
  unfold w_instance
  refine g_anew hT hD hc hb ho hs hsub (Or.inl rfl) h8 fun t v h => hq t v ?_
  obtain ⟨a1, a2, a3, a4, a5, a6, a7, a8, a9, a10, a11⟩ := h
  exact ⟨a1, a2, a3, a4, a5, a6, a7, a8, a9, fun _ => a10 rfl, a11⟩
