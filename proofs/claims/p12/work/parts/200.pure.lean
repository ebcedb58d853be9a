/-! the pure side: how a weakest precondition is met -/
theorem rd_i {x : Int} {P : Int → Prop} (h : inR x → P x) : rd x P := fun v e hr => by subst e; exact h hr
theorem rz_i {x : Int} {P : Int → Prop} (h : bz x → P x) : rz x P := fun v e hr => by subst e; exact h hr
theorem rl_i {x : Int} {P : Int → Prop} (h : inL x → P x) : rl x P := fun v e hr => by subst e; exact h hr
theorem bd_i {i n : Int} {P : Prop} (h0 : 0 ≤ i) (h1 : i < n) (h : P) : bd i n P := ⟨h0, h1, h⟩
theorem ov_i {x : Int} {P : Prop} (h0 : -2147483648 ≤ x) (h1 : x < 2147483648) (h : P) : ov x P := ⟨⟨h0, h1⟩, h⟩
theorem ol_i {x : Int} {P : Prop} (h0 : -9223372036854775808 ≤ x) (h1 : x < 9223372036854775808) (h : P) : ol x P := ⟨⟨h0, h1⟩, h⟩
theorem sw_i {S : Type} {u : S} {P : S → Prop} (h : P u) : sw u P := fun _ e => by subst e; exact h
theorem br_i {c P Q : Prop} (a : c → P) (b : ¬ c → Q) : br c P Q := ⟨a, b⟩
theorem br_y {c P Q : Prop} (hc : c) (a : P) : br c P Q := ⟨fun _ => a, fun h => absurd hc h⟩
theorem br_n {c P Q : Prop} (hc : ¬ c) (b : Q) : br c P Q := ⟨fun h => absurd h hc, fun _ => b⟩
theorem zt_0 {P : Prop} (h : P) : zt 0 P := ⟨Or.inl rfl, h⟩
theorem zt_1 {P : Prop} (h : P) : zt 1 P := ⟨Or.inr rfl, h⟩
theorem lf0 {B : (iST → Prop) → iST → Prop} (I : iST → Prop) (μ : iST → Nat) (hs : ∀ u, I u → ∀ R : iST → Prop, (∀ v, I v → μ v < μ u → R v) → B R u) {u : iST} (h : I u) : ∀ R : iST → Prop, (∀ u, B R u → R u) → R u := by
  intro R hR
  have key : ∀ n u, I u → μ u < n → R u := by
    intro n
    induction n with
    | zero => intro u _ h; omega
    | succ n ih => intro u hI hn; exact hR u (hs u hI R (fun v hv hm => ih v hv (by omega)))
  exact key _ u h (Nat.lt_succ_self _)
theorem lf1 {B : (Int → iST → Prop) → Int → iST → Prop} (I : Int → iST → Prop) (μ : Int → iST → Nat) (hs : ∀ (x0 : Int) (u : iST), I x0 u → ∀ R : Int → iST → Prop, (∀ (y0 : Int) (v : iST), I y0 v → μ y0 v < μ x0 u → R y0 v) → B R x0 u) {x0 : Int} {u : iST} (h : I x0 u) : ∀ R : Int → iST → Prop, (∀ (x0 : Int) (u : iST), B R x0 u → R x0 u) → R x0 u := by
  intro R hR
  have key : ∀ (n : Nat) (x0 : Int) (u : iST), I x0 u → μ x0 u < n → R x0 u := by
    intro n
    induction n with
    | zero => intro x0 u _ h; omega
    | succ n ih => intro x0 u hI hn; exact hR x0 u (hs x0 u hI R (fun y0 v hv hm => ih y0 v hv (by omega)))
  exact key _ x0 u h (Nat.lt_succ_self _)
theorem lf2 {B : (Int → Int → iST → Prop) → Int → Int → iST → Prop} (I : Int → Int → iST → Prop) (μ : Int → Int → iST → Nat) (hs : ∀ (x0 x1 : Int) (u : iST), I x0 x1 u → ∀ R : Int → Int → iST → Prop, (∀ (y0 y1 : Int) (v : iST), I y0 y1 v → μ y0 y1 v < μ x0 x1 u → R y0 y1 v) → B R x0 x1 u) {x0 x1 : Int} {u : iST} (h : I x0 x1 u) : ∀ R : Int → Int → iST → Prop, (∀ (x0 x1 : Int) (u : iST), B R x0 x1 u → R x0 x1 u) → R x0 x1 u := by
  intro R hR
  have key : ∀ (n : Nat) (x0 x1 : Int) (u : iST), I x0 x1 u → μ x0 x1 u < n → R x0 x1 u := by
    intro n
    induction n with
    | zero => intro x0 x1 u _ h; omega
    | succ n ih => intro x0 x1 u hI hn; exact hR x0 x1 u (hs x0 x1 u hI R (fun y0 y1 v hv hm => ih y0 y1 v hv (by omega)))
  exact key _ x0 x1 u h (Nat.lt_succ_self _)
theorem lf3 {B : (Int → Int → Int → iST → Prop) → Int → Int → Int → iST → Prop} (I : Int → Int → Int → iST → Prop) (μ : Int → Int → Int → iST → Nat) (hs : ∀ (x0 x1 x2 : Int) (u : iST), I x0 x1 x2 u → ∀ R : Int → Int → Int → iST → Prop, (∀ (y0 y1 y2 : Int) (v : iST), I y0 y1 y2 v → μ y0 y1 y2 v < μ x0 x1 x2 u → R y0 y1 y2 v) → B R x0 x1 x2 u) {x0 x1 x2 : Int} {u : iST} (h : I x0 x1 x2 u) : ∀ R : Int → Int → Int → iST → Prop, (∀ (x0 x1 x2 : Int) (u : iST), B R x0 x1 x2 u → R x0 x1 x2 u) → R x0 x1 x2 u := by
  intro R hR
  have key : ∀ (n : Nat) (x0 x1 x2 : Int) (u : iST), I x0 x1 x2 u → μ x0 x1 x2 u < n → R x0 x1 x2 u := by
    intro n
    induction n with
    | zero => intro x0 x1 x2 u _ h; omega
    | succ n ih => intro x0 x1 x2 u hI hn; exact hR x0 x1 x2 u (hs x0 x1 x2 u hI R (fun y0 y1 y2 v hv hm => ih y0 y1 y2 v hv (by omega)))
  exact key _ x0 x1 x2 u h (Nat.lt_succ_self _)
theorem lf4 {B : (Int → Int → Int → Int → iST → Prop) → Int → Int → Int → Int → iST → Prop} (I : Int → Int → Int → Int → iST → Prop) (μ : Int → Int → Int → Int → iST → Nat) (hs : ∀ (x0 x1 x2 x3 : Int) (u : iST), I x0 x1 x2 x3 u → ∀ R : Int → Int → Int → Int → iST → Prop, (∀ (y0 y1 y2 y3 : Int) (v : iST), I y0 y1 y2 y3 v → μ y0 y1 y2 y3 v < μ x0 x1 x2 x3 u → R y0 y1 y2 y3 v) → B R x0 x1 x2 x3 u) {x0 x1 x2 x3 : Int} {u : iST} (h : I x0 x1 x2 x3 u) : ∀ R : Int → Int → Int → Int → iST → Prop, (∀ (x0 x1 x2 x3 : Int) (u : iST), B R x0 x1 x2 x3 u → R x0 x1 x2 x3 u) → R x0 x1 x2 x3 u := by
  intro R hR
  have key : ∀ (n : Nat) (x0 x1 x2 x3 : Int) (u : iST), I x0 x1 x2 x3 u → μ x0 x1 x2 x3 u < n → R x0 x1 x2 x3 u := by
    intro n
    induction n with
    | zero => intro x0 x1 x2 x3 u _ h; omega
    | succ n ih => intro x0 x1 x2 x3 u hI hn; exact hR x0 x1 x2 x3 u (hs x0 x1 x2 x3 u hI R (fun y0 y1 y2 y3 v hv hm => ih y0 y1 y2 y3 v hv (by omega)))
  exact key _ x0 x1 x2 x3 u h (Nat.lt_succ_self _)
theorem lf5 {B : (Int → Int → Int → Int → Int → iST → Prop) → Int → Int → Int → Int → Int → iST → Prop} (I : Int → Int → Int → Int → Int → iST → Prop) (μ : Int → Int → Int → Int → Int → iST → Nat) (hs : ∀ (x0 x1 x2 x3 x4 : Int) (u : iST), I x0 x1 x2 x3 x4 u → ∀ R : Int → Int → Int → Int → Int → iST → Prop, (∀ (y0 y1 y2 y3 y4 : Int) (v : iST), I y0 y1 y2 y3 y4 v → μ y0 y1 y2 y3 y4 v < μ x0 x1 x2 x3 x4 u → R y0 y1 y2 y3 y4 v) → B R x0 x1 x2 x3 x4 u) {x0 x1 x2 x3 x4 : Int} {u : iST} (h : I x0 x1 x2 x3 x4 u) : ∀ R : Int → Int → Int → Int → Int → iST → Prop, (∀ (x0 x1 x2 x3 x4 : Int) (u : iST), B R x0 x1 x2 x3 x4 u → R x0 x1 x2 x3 x4 u) → R x0 x1 x2 x3 x4 u := by
  intro R hR
  have key : ∀ (n : Nat) (x0 x1 x2 x3 x4 : Int) (u : iST), I x0 x1 x2 x3 x4 u → μ x0 x1 x2 x3 x4 u < n → R x0 x1 x2 x3 x4 u := by
    intro n
    induction n with
    | zero => intro x0 x1 x2 x3 x4 u _ h; omega
    | succ n ih => intro x0 x1 x2 x3 x4 u hI hn; exact hR x0 x1 x2 x3 x4 u (hs x0 x1 x2 x3 x4 u hI R (fun y0 y1 y2 y3 y4 v hv hm => ih y0 y1 y2 y3 y4 v hv (by omega)))
  exact key _ x0 x1 x2 x3 x4 u h (Nat.lt_succ_self _)
theorem lf6 {B : (Int → Int → Int → Int → Int → Int → iST → Prop) → Int → Int → Int → Int → Int → Int → iST → Prop} (I : Int → Int → Int → Int → Int → Int → iST → Prop) (μ : Int → Int → Int → Int → Int → Int → iST → Nat) (hs : ∀ (x0 x1 x2 x3 x4 x5 : Int) (u : iST), I x0 x1 x2 x3 x4 x5 u → ∀ R : Int → Int → Int → Int → Int → Int → iST → Prop, (∀ (y0 y1 y2 y3 y4 y5 : Int) (v : iST), I y0 y1 y2 y3 y4 y5 v → μ y0 y1 y2 y3 y4 y5 v < μ x0 x1 x2 x3 x4 x5 u → R y0 y1 y2 y3 y4 y5 v) → B R x0 x1 x2 x3 x4 x5 u) {x0 x1 x2 x3 x4 x5 : Int} {u : iST} (h : I x0 x1 x2 x3 x4 x5 u) : ∀ R : Int → Int → Int → Int → Int → Int → iST → Prop, (∀ (x0 x1 x2 x3 x4 x5 : Int) (u : iST), B R x0 x1 x2 x3 x4 x5 u → R x0 x1 x2 x3 x4 x5 u) → R x0 x1 x2 x3 x4 x5 u := by
  intro R hR
  have key : ∀ (n : Nat) (x0 x1 x2 x3 x4 x5 : Int) (u : iST), I x0 x1 x2 x3 x4 x5 u → μ x0 x1 x2 x3 x4 x5 u < n → R x0 x1 x2 x3 x4 x5 u := by
    intro n
    induction n with
    | zero => intro x0 x1 x2 x3 x4 x5 u _ h; omega
    | succ n ih => intro x0 x1 x2 x3 x4 x5 u hI hn; exact hR x0 x1 x2 x3 x4 x5 u (hs x0 x1 x2 x3 x4 x5 u hI R (fun y0 y1 y2 y3 y4 y5 v hv hm => ih y0 y1 y2 y3 y4 y5 v hv (by omega)))
  exact key _ x0 x1 x2 x3 x4 x5 u h (Nat.lt_succ_self _)
theorem lf7 {B : (Int → Int → Int → Int → Int → Int → Int → iST → Prop) → Int → Int → Int → Int → Int → Int → Int → iST → Prop} (I : Int → Int → Int → Int → Int → Int → Int → iST → Prop) (μ : Int → Int → Int → Int → Int → Int → Int → iST → Nat) (hs : ∀ (x0 x1 x2 x3 x4 x5 x6 : Int) (u : iST), I x0 x1 x2 x3 x4 x5 x6 u → ∀ R : Int → Int → Int → Int → Int → Int → Int → iST → Prop, (∀ (y0 y1 y2 y3 y4 y5 y6 : Int) (v : iST), I y0 y1 y2 y3 y4 y5 y6 v → μ y0 y1 y2 y3 y4 y5 y6 v < μ x0 x1 x2 x3 x4 x5 x6 u → R y0 y1 y2 y3 y4 y5 y6 v) → B R x0 x1 x2 x3 x4 x5 x6 u) {x0 x1 x2 x3 x4 x5 x6 : Int} {u : iST} (h : I x0 x1 x2 x3 x4 x5 x6 u) : ∀ R : Int → Int → Int → Int → Int → Int → Int → iST → Prop, (∀ (x0 x1 x2 x3 x4 x5 x6 : Int) (u : iST), B R x0 x1 x2 x3 x4 x5 x6 u → R x0 x1 x2 x3 x4 x5 x6 u) → R x0 x1 x2 x3 x4 x5 x6 u := by
  intro R hR
  have key : ∀ (n : Nat) (x0 x1 x2 x3 x4 x5 x6 : Int) (u : iST), I x0 x1 x2 x3 x4 x5 x6 u → μ x0 x1 x2 x3 x4 x5 x6 u < n → R x0 x1 x2 x3 x4 x5 x6 u := by
    intro n
    induction n with
    | zero => intro x0 x1 x2 x3 x4 x5 x6 u _ h; omega
    | succ n ih => intro x0 x1 x2 x3 x4 x5 x6 u hI hn; exact hR x0 x1 x2 x3 x4 x5 x6 u (hs x0 x1 x2 x3 x4 x5 x6 u hI R (fun y0 y1 y2 y3 y4 y5 y6 v hv hm => ih y0 y1 y2 y3 y4 y5 y6 v hv (by omega)))
  exact key _ x0 x1 x2 x3 x4 x5 x6 u h (Nat.lt_succ_self _)
