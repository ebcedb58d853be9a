/-! walking through a term (whose functions need not be known) -/
theorem IsW.szr {u : iST} (hT : TI u) : ∀ {o : Int}, IsW u o → 1 ≤ sz u o ∧ sz u o ≤ 30000 := by
  have key : ∀ (m : Nat) (o : Int), o < m → IsW u o → 1 ≤ sz u o ∧ sz u o ≤ 30000 := by
    intro m
    induction m with
    | zero => intro o hm h; have := h.r; omega
    | succ m ih =>
      intro o hm h
      obtain ⟨a0, a1, a2⟩ := h.step
      unfold sz
      rcases a2 with a2 | a2 | ⟨b1, b2, n, b3, b5, b6, b7⟩
      · rw [if_neg (by omega)]; omega
      · rw [if_neg (by unfold Quo at a2; omega)]; omega
      · rw [if_pos ⟨b1, b2⟩, b7]
        have hp := hT.pair a0 a1 b1
        have hs : ∀ (n : Nat) (l : Int), l < o → IsL u l n → AllE u (IsW u) l n → 0 ≤ sumS u l n := by
          intro n
          induction n with
          | zero => intro l _ _ _; exact Int.le_refl _
          | succ n ih2 =>
            intro l hl h1 h2
            have hp2 := hT.pair h1.1 h1.2.1 h1.2.2.1
            have e1 := ih _ (by omega) h2.1
            have e2 := ih2 _ (by omega) h1.2.2.2 h2.2
            show 0 ≤ sz u (u.2.1 0 l) + sumS u (u.2.1 1 l) n
            omega
        have := hs n _ hp.2.2 b5 b6
        unfold capS
        split <;> omega
  intro o h
  exact key (o.toNat + 1) o (by have := h.r; omega) h
theorem IsW.eq {u v : iST} (hs : ∀ k, k ≤ 11 → v.1 k = u.1 k ∧ v.2.1 k = u.2.1 k) {o : Int} (h : IsW u o) : IsW v o := by
  have e : ∀ (n : Nat) (l : Int), IsL u l n → IsL v l n := by
    intro n
    induction n with
    | zero => intro l h; exact h
    | succ n ih =>
      intro l ⟨a, b, c, d⟩
      refine ⟨a, by rw [(hs 8 (by decide)).1]; exact b, by rw [(hs 0 (by decide)).2]; exact c, ?_⟩
      rw [(hs 1 (by decide)).2]
      exact ih _ d
  have e2 : ∀ (P : Int → Prop) (n : Nat) (l : Int), AllE u P l n → AllE v P l n := by
    intro P n
    induction n with
    | zero => intro l _; trivial
    | succ n ih =>
      intro l ⟨a, b⟩
      refine ⟨by rw [(hs 0 (by decide)).2]; exact a, ?_⟩
      rw [(hs 1 (by decide)).2]
      exact ih _ b
  have e3 : ∀ x, sz v x = sz u x := fun x => by unfold sz; rw [(hs 0 (by decide)).2, (hs 3 (by decide)).2]
  have e4 : ∀ (n : Nat) (l : Int), sumS v l n = sumS u l n := by
    intro n
    induction n with
    | zero => intro l; rfl
    | succ n ih =>
      intro l
      show sz v (v.2.1 0 l) + sumS v (v.2.1 1 l) n = sz u (u.2.1 0 l) + sumS u (u.2.1 1 l) n
      rw [(hs 0 (by decide)).2, (hs 1 (by decide)).2, e3, ih]
  refine ⟨IsW u, fun x hx => ?_, h⟩
  obtain ⟨a0, a1, a2⟩ := hx.step
  unfold WStep Quo
  rw [(hs 8 (by decide)).1, (hs 0 (by decide)).2, (hs 1 (by decide)).2, (hs 3 (by decide)).2]
  refine ⟨a0, a1, ?_⟩
  rcases a2 with a2 | a2 | ⟨b1, b2, n, b3, b5, b6, b7⟩
  · exact Or.inl a2
  · exact Or.inr (Or.inl a2)
  · exact Or.inr (Or.inr ⟨b1, b2, n, b3, e _ _ b5, e2 _ _ _ b6, by rw [e4]; exact b7⟩)
theorem IsW.call {u : iST} {o : Int} (h : IsW u o) (hc : 0 ≤ u.2.1 0 o ∧ u.2.1 0 o ≠ 2) : ∃ n : Nat, n ≤ 6 ∧ IsL u (u.2.1 1 o) n ∧ AllE u (IsW u) (u.2.1 1 o) n ∧ sz u o = capS (1 + sumS u (u.2.1 1 o) n) := by
  obtain ⟨c0, c1, c2⟩ := h.step
  rcases c2 with c2 | c2 | ⟨d1, d2, n, d3, d5, d6, d7⟩
  · omega
  · have := c2.2.1; omega
  · refine ⟨n, d3, d5, d6, ?_⟩
    unfold sz
    rw [if_pos hc, d7]
theorem sumS_rw {u : iST} (hT : TI u) : ∀ {n : Nat} {l : Int}, AllE u (IsW u) l n → (n : Int) ≤ sumS u l n
  | 0, _, _ => by show (0 : Int) ≤ 0; omega
  | n + 1, l, ⟨a, b⟩ => by
    have h1 := a.szr hT
    have h2 := sumS_rw hT b
    show ((n + 1 : Nat) : Int) ≤ sz u (u.2.1 0 l) + sumS u (u.2.1 1 l) n
    omega
def preS (u : iST) (l : Int) : Nat → Int
  | 0 => 0
  | k + 1 => preS u l k + sz u (el u l k)
theorem preS_sum {u : iST} : ∀ {n : Nat} {l : Int}, preS u l n = sumS u l n
  | 0, _ => rfl
  | n + 1, l => by
    have h : ∀ k : Nat, preS u l (k + 1) = sz u (u.2.1 0 l) + preS u (u.2.1 1 l) k := by
      intro k
      induction k with
      | zero => show 0 + sz u (u.2.1 0 l) = sz u (u.2.1 0 l) + 0; omega
      | succ k ih =>
        show preS u l (k + 1) + sz u (el u l (k + 1)) = sz u (u.2.1 0 l) + (preS u (u.2.1 1 l) k + sz u (el u (u.2.1 1 l) k))
        rw [ih]
        show _ + sz u (el u (u.2.1 1 l) k) = _
        omega
    rw [h n]
    show _ = sz u (u.2.1 0 l) + sumS u (u.2.1 1 l) n
    rw [preS_sum]
def sumK (u : iST) : Nat → Int
  | 0 => 0
  | n + 1 => sumK u n + sz u (u.2.1 75 (n : Int))
/-- the stack of the walk: terms, of SIZES s together -/
def WkI (u : iST) (s : Int) : Prop := 0 ≤ u.1 76 ∧ (∀ j, 0 ≤ j → j < u.1 76 → IsW u (u.2.1 75 j)) ∧ sumK u (u.1 76).toNat = s
def OnSt (u : iST) (a : Int) : Prop := ∃ j, 0 ≤ j ∧ j < u.1 76 ∧ u.2.1 75 j = a
def fK (k : Nat) : Bool := decide (k = 75) || decide (k = 76)
theorem sumK_len {u : iST} (hT : TI u) : ∀ (n : Nat), (∀ j, 0 ≤ j → j < (n : Int) → IsW u (u.2.1 75 j)) → (n : Int) ≤ sumK u n
  | 0, _ => by show (0 : Int) ≤ 0; omega
  | n + 1, h => by
    have h1 := (h n (by omega) (by omega)).szr hT
    have h2 := sumK_len hT n (fun j j0 j1 => h j j0 (by omega))
    show ((n + 1 : Nat) : Int) ≤ sumK u n + sz u (u.2.1 75 (n : Int))
    omega
theorem sumK_congr {u v : iST} (h0 : v.2.1 0 = u.2.1 0) (h3 : v.2.1 3 = u.2.1 3) : ∀ (n : Nat), (∀ j, 0 ≤ j → j < (n : Int) → v.2.1 75 j = u.2.1 75 j) → sumK v n = sumK u n
  | 0, _ => rfl
  | n + 1, h => by
    show sumK v n + sz v (v.2.1 75 (n : Int)) = sumK u n + sz u (u.2.1 75 (n : Int))
    rw [sumK_congr h0 h3 n (fun j j0 j1 => h j j0 (by omega)), h n (by omega) (by omega)]
    unfold sz
    rw [h0, h3]
/-- any weights of what is on the stack -/
def sumW (ω : Int → Int) (u : iST) : Nat → Int
  | 0 => 0
  | n + 1 => sumW ω u n + ω (u.2.1 75 (n : Int))
def preW (ω : Int → Int) (u : iST) (l : Int) : Nat → Int
  | 0 => 0
  | k + 1 => preW ω u l k + ω (el u l k)
theorem sumW_congr {ω : Int → Int} {u v : iST} : ∀ (n : Nat), (∀ j, 0 ≤ j → j < (n : Int) → v.2.1 75 j = u.2.1 75 j) → sumW ω v n = sumW ω u n
  | 0, _ => rfl
  | n + 1, h => by
    show sumW ω v n + ω (v.2.1 75 (n : Int)) = sumW ω u n + ω (u.2.1 75 (n : Int))
    rw [sumW_congr n (fun j j0 j1 => h j j0 (by omega)), h n (by omega) (by omega)]
/-- what a turn of a walk does to the weights -/
def Wgt (u v : iST) (x : Int) : Prop := ∀ ω : Int → Int, (¬ (0 ≤ u.2.1 0 x ∧ u.2.1 0 x ≠ 2) → sumW ω v (v.1 76).toNat + ω x = sumW ω u (u.1 76).toNat) ∧ ((0 ≤ u.2.1 0 x ∧ u.2.1 0 x ≠ 2) → ∃ n : Nat, IsL u (u.2.1 1 x) n ∧ sumW ω v (v.1 76).toNat + ω x = sumW ω u (u.1 76).toNat + preW ω u (u.2.1 1 x) n)
theorem s_walkTo {x : Int} {Q : iST → Prop} {u : iST} (h0 : 0 ≤ u.1 76) (h1 : u.1 76 < 400) (h : Q (iI (iA u 75 (u.1 76) x) 76 (u.1 76 + 1))) : w_walkTo x Q u := by
  unfold w_walkTo
  exact rd_i fun _ => bd_i h0 h1 (sw_i (rd_i fun _ => ov_i (show -2147483648 ≤ u.1 76 + 1 by omega) (show u.1 76 + 1 < 2147483648 by omega) (sw_i h)))
/-- one term is taken from the stack, its terms are laid on it -/
theorem g_walkOn {s : Int} {Q : Int → iST → Prop} {u : iST} (hT : TI u) (hk : WkI u s) (hs : s ≤ 300) (hp : 0 < u.1 76) (hq : ∀ x v, IsW u x → OnSt u x → Fx fK u v → v.2.2 = u.2.2 → WkI v (s - 1) → (∀ a, OnSt u a → a = x ∨ OnSt v a) → (0 ≤ u.2.1 0 x ∧ u.2.1 0 x ≠ 2 → ∃ n : Nat, IsL u (u.2.1 1 x) n ∧ AllE u (OnSt v) (u.2.1 1 x) n) → (∀ a, OnSt v a → OnSt u a ∨ ((0 ≤ u.2.1 0 x ∧ u.2.1 0 x ≠ 2) ∧ ∃ n i : Nat, IsL u (u.2.1 1 x) n ∧ i < n ∧ a = el u (u.2.1 1 x) i)) → Wgt u v x → Q x v) : w_walkOn Q u := by
  obtain ⟨k0, k1, k2⟩ := hk
  have h8 := hT.2.1
  have hx := k1 (u.1 76 - 1) (by omega) (by omega)
  have hlen := sumK_len hT (u.1 76).toNat (fun j j0 j1 => k1 j j0 (by omega))
  rw [k2] at hlen
  obtain ⟨w, hw⟩ : ∃ w : Nat, u.1 76 = (w : Int) + 1 := ⟨(u.1 76 - 1).toNat, by omega⟩
  have hwx : u.1 76 - 1 = w := by omega
  have hwt : (u.1 76).toNat = w + 1 := by omega
  rw [hwt] at k2
  have k2 : sumK u w + sz u (u.2.1 75 (w : Int)) = s := k2
  rw [hwx] at hx
  have hxr := hx.r
  have hxs := hx.szr hT
  unfold w_walkOn
  refine rd_i fun _ => ov_i (by omega) (by omega) (sw_i (rd_i fun _ => bd_i (show 0 ≤ u.1 76 - 1 by omega) (show u.1 76 - 1 < 400 by omega) ?_))
  show rd (u.2.1 75 (u.1 76 - 1)) _
  rw [hwx]
  generalize hxx : u.2.1 75 (w : Int) = x at *
  have st : ∀ v : iST, v.1 76 = w → (∀ j, 0 ≤ j → j < (w : Int) → v.2.1 75 j = u.2.1 75 j) → ∀ a, OnSt u a → a = x ∨ OnSt v a := by
    intro v v1 v2 a ⟨j, j0, j1, j2⟩
    by_cases e : j = w
    · left; rw [← j2, e]; exact hxx
    · right; exact ⟨j, j0, by omega, by rw [v2 j j0 (by omega)]; exact j2⟩
  have onx : OnSt u x := ⟨w, by omega, by omega, hxx⟩
  refine rd_i fun _ => s_isCall (u := iI u 76 w) hxr.1 (show x < 452000 by omega) fun r _ hr => br_i (fun hz => ?_) (fun hz => ?_)
  · have hc : 0 ≤ u.2.1 0 x ∧ u.2.1 0 x ≠ 2 := hr.mp hz
    obtain ⟨n, n6, hl, ha, hsz⟩ := hx.call hc
    have p1 := hT.pair hxr.1 hxr.2 hc.1
    have hsn := sumS_rw hT ha
    have hcap : sz u x = 1 + sumS u (u.2.1 1 x) n := by
      rw [hsz]
      unfold capS at hsz ⊢
      split
      · next hh =>
        rw [if_pos hh] at hsz
        have := sumK_len hT w (fun j j0 j1 => k1 j j0 (by omega))
        omega
      · rfl
    refine bd_i hxr.1 (by omega) (rd_i fun _ => ?_)
    have hTw : TI (iI u 76 w) := hT
    refine s_lengthOf hTw p1.2.1 (show u.2.1 1 x < u.1 8 by omega) (fun hno => ?_) (fun ln _ hln => ?_)
    · have hl' : IsL (iI u 76 w) (u.2.1 1 x) n := hl.ext hT (Ext_eq (u := u) (v := iI u 76 w) (fun k hk => ⟨if_neg (show k ≠ 76 by omega), rfl⟩) rfl)
      exact absurd hl' (hno n)
    · have hl' : IsL (iI u 76 w) (u.2.1 1 x) n := hl.ext hT (Ext_eq (u := u) (v := iI u 76 w) (fun k hk => ⟨if_neg (show k ≠ 76 by omega), rfl⟩) rfl)
      have e := IsL_uniq hTw hln hl'
      subst e
      unfold w_walkOn_43
      refine lf2 (B := fun R x1 x3 u => w_walkOn_43b R Q x1 x3 u) (fun x1 x3 v => x1 = x ∧ ∃ k : Nat, x3 = k ∧ k ≤ ln ∧ Fx fK u v ∧ v.2.2 = u.2.2 ∧ v.1 76 = (w : Int) + (ln - k) ∧ (∀ j, 0 ≤ j → j < (w : Int) → v.2.1 75 j = u.2.1 75 j) ∧ (∀ j, 0 ≤ j → j < v.1 76 → IsW u (v.2.1 75 j)) ∧ sumK v (v.1 76).toNat + preS u (u.2.1 1 x) k = sumK u w + sumS u (u.2.1 1 x) ln ∧ (∀ i, k ≤ i → i < ln → OnSt v (el u (u.2.1 1 x) i)) ∧ (∀ j, 0 ≤ j → j < v.1 76 → (w : Int) ≤ j → ∃ i, i < ln ∧ v.2.1 75 j = el u (u.2.1 1 x) i) ∧ ∀ ω : Int → Int, sumW ω v (v.1 76).toNat + preW ω u (u.2.1 1 x) k = sumW ω u w + preW ω u (u.2.1 1 x) ln) (fun _ x3 _ => x3.toNat) ?_ ⟨rfl, ln, rfl, Nat.le_refl _, Fx_I (k := 76) rfl, rfl, show (w : Int) = w + (ln - ln) by omega, fun _ _ _ => rfl, fun j j0 j1 => k1 j j0 (by have j1 : j < (w : Int) := j1; omega), ?_, fun i i0 i1 => by omega, fun j _ j1 j2 => by have j1 : j < (w : Int) := j1; omega, fun ω => by
        show sumW ω (iI u 76 w) ((w : Int)).toNat + _ = _
        rw [show ((w : Int)).toNat = w from by omega, sumW_congr (u := u) (v := iI u 76 w) w (fun _ _ _ => rfl)]⟩
      · intro x1 x3 v hI R ih
        obtain ⟨rfl, k, rfl, q1, q2, q3, q4, q5, q6, q7, q8, q9, q10⟩ := hI
        have vt : ∀ k, k ≤ 11 → v.1 k = u.1 k ∧ v.2.1 k = u.2.1 k := fun k hk => q2 k (by simp [fK]; omega)
        have vT : TI v := TI_eq hT vt q3
        unfold w_walkOn_43b
        refine br_i (fun hlt => ?_) (fun hge => ?_)
        · have e0 : k = 0 := by omega
          subst e0
          refine hq x1 v hx onx q2 q3 ⟨by omega, fun j j0 j1 => (q6 j j0 j1).eq vt, ?_⟩ ?_ (fun _ => ⟨ln, hl, ?_⟩) (fun a ⟨j, j0, j1, j2⟩ => ?_) (fun ω => ⟨fun z => absurd hc z, fun _ => ⟨ln, hl, ?_⟩⟩)
          · have q7 : sumK v (v.1 76).toNat + 0 = sumK u w + sumS u (u.2.1 1 x1) ln := q7
            omega
          · intro a ⟨j, j0, j1, j2⟩
            by_cases e : j = w
            · left; rw [← j2, e]; exact hxx
            · right; exact ⟨j, j0, by omega, by rw [q5 j j0 (by omega)]; exact j2⟩
          · have : ∀ (m : Nat) (l : Int), (∀ i, i < m → OnSt v (el u l i)) → AllE u (OnSt v) l m := by
              intro m
              induction m with
              | zero => intro l _; trivial
              | succ m ihm => intro l hlm; exact ⟨hlm 0 (by omega), ihm _ (fun i hi => hlm (i + 1) (by omega))⟩
            exact this ln _ (fun i hi => q8 i (by omega) hi)
          · by_cases e : j < (w : Int)
            · exact Or.inl ⟨j, j0, by omega, by rw [← q5 j j0 e]; exact j2⟩
            · obtain ⟨i, i1, i2⟩ := q9 j j0 j1 (by omega)
              exact Or.inr ⟨hc, ln, i, hl, i1, by rw [← j2]; exact i2⟩
          · have q10 := q10 ω
            have q10 : sumW ω v (v.1 76).toNat + 0 = sumW ω u w + preW ω u (u.2.1 1 x1) ln := q10
            have e : sumW ω u (u.1 76).toNat = sumW ω u w + ω (u.2.1 75 (w : Int)) := by rw [hwt]; rfl
            rw [hxx] at e
            omega
        · obtain ⟨k', rfl⟩ : ∃ k', k = k' + 1 := ⟨k - 1, by omega⟩
          have hxv : 0 ≤ x1 ∧ x1 < v.1 8 := by rw [(vt 8 (by decide)).1]; exact hxr
          refine s_nth vT hxv.1 hxv.2 (by omega) (by omega) ?_
          have eel : el v x1 ((k' + 1 : Nat) : Int).toNat = el u (u.2.1 1 x1) k' := by
            rw [show (((k' + 1 : Nat) : Int)).toNat = k' + 1 from by omega]
            show el v (v.2.1 1 x1) k' = _
            rw [(vt 1 (by decide)).2]
            exact el_ext (Ext_eq vt q3) hl k' (by omega)
          rw [eel]
          have hIw : IsW u (el u (u.2.1 1 x1) k') := ha.el k' (by omega)
          have hvlen : v.1 76 < 300 := by
            have := sumK_len vT (v.1 76).toNat (fun j j0 j1 => (q6 j j0 (by omega)).eq vt)
            have hpre : ∀ m, m ≤ ln → 0 ≤ preS u (u.2.1 1 x1) m := by
              intro m
              induction m with
              | zero => intro _; exact Int.le_refl _
              | succ m ihm =>
                intro hm
                have := ihm (by omega)
                have := (ha.el m (by omega)).szr hT
                show 0 ≤ preS u (u.2.1 1 x1) m + sz u (el u (u.2.1 1 x1) m)
                omega
            have := hpre (k' + 1) q1
            omega
          refine s_walkTo (by omega) (by omega) (ov_i (by omega) (by omega) ?_)
          generalize hz2 : iI (iA v 75 (v.1 76) (el u (u.2.1 1 x1) k')) 76 (v.1 76 + 1) = z
          have z75 : ∀ j, z.2.1 75 j = if j = v.1 76 then el u (u.2.1 1 x1) k' else v.2.1 75 j := fun j => by rw [← hz2]; rfl
          have z76 : z.1 76 = v.1 76 + 1 := by rw [← hz2]; rfl
          have zg : ∀ g, g ≠ 75 → z.2.1 g = v.2.1 g := fun g hg => by rw [← hz2]; exact if_neg hg
          have zF : Fx fK u z := by rw [← hz2]; exact (q2.tr (Fx_A (k := 75) rfl)).tr (Fx_I (k := 76) rfl)
          refine ih _ _ _ ⟨rfl, k', by omega, by omega, zF, by rw [← hz2]; exact q3, by rw [z76]; omega, fun j j0 j1 => by rw [z75, if_neg (by omega)]; exact q5 j j0 j1, fun j j0 j1 => ?_, ?_, fun i i0 i1 => ?_, fun j j0 j1 j2 => ?_, fun ω => ?_⟩ (by omega)
          · rw [z75]
            split
            · exact hIw
            · exact q6 j j0 (by omega)
          · rw [z76, show (v.1 76 + 1).toNat = (v.1 76).toNat + 1 from by omega]
            show sumK z (v.1 76).toNat + sz z (z.2.1 75 ((v.1 76).toNat : Int)) + _ = _
            rw [sumK_congr (zg 0 (by decide)) (zg 3 (by decide)) _ (fun j j0 j1 => by rw [z75, if_neg (by omega)]), z75, if_pos (by omega)]
            have esz : sz z (el u (u.2.1 1 x1) k') = sz u (el u (u.2.1 1 x1) k') := by unfold sz; rw [zg 0 (by decide), zg 3 (by decide), (vt 0 (by decide)).2, (vt 3 (by decide)).2]
            rw [esz]
            have q7 : sumK v (v.1 76).toNat + (preS u (u.2.1 1 x1) k' + sz u (el u (u.2.1 1 x1) k')) = sumK u w + sumS u (u.2.1 1 x1) ln := q7
            omega
          · by_cases e : i = k'
            · subst e
              exact ⟨v.1 76, by omega, by omega, by rw [z75, if_pos rfl]⟩
            · obtain ⟨j, j0, j1, j2⟩ := q8 i (by omega) i1
              exact ⟨j, j0, by omega, by rw [z75, if_neg (by omega)]; exact j2⟩
          · rw [z75]
            split
            · exact ⟨k', by omega, rfl⟩
            · exact q9 j j0 (by omega) j2
          · have q10 := q10 ω
            have q10 : sumW ω v (v.1 76).toNat + (preW ω u (u.2.1 1 x1) k' + ω (el u (u.2.1 1 x1) k')) = sumW ω u w + preW ω u (u.2.1 1 x1) ln := q10
            rw [z76, show (v.1 76 + 1).toNat = (v.1 76).toNat + 1 from by omega]
            show sumW ω z (v.1 76).toNat + ω (z.2.1 75 ((v.1 76).toNat : Int)) + _ = _
            rw [sumW_congr (u := v) (v := z) _ (fun j j0 j1 => by rw [z75, if_neg (by omega)]), z75, if_pos (by omega)]
            omega
      · show sumK (iI u 76 w) ((w : Int)).toNat + _ = _
        rw [preS_sum, show ((w : Int)).toNat = w from by omega, sumK_congr (u := u) (v := iI u 76 w) rfl rfl w (fun _ _ _ => rfl)]
  · have hnc : ¬ (0 ≤ u.2.1 0 x ∧ u.2.1 0 x ≠ 2) := fun z => hr.mpr z (by omega)
    have e1 : sz u x = 1 := by unfold sz; rw [if_neg hnc]
    refine hq x _ hx onx (Fx_I (k := 76) rfl) rfl ⟨show (0 : Int) ≤ w by omega, fun j j0 j1 => IsW.eq (v := iI u 76 w) (fun k hk => ⟨if_neg (show k ≠ 76 by omega), rfl⟩) (k1 j j0 (by have j1 : j < (w : Int) := j1; omega)), ?_⟩ (st _ rfl (fun _ _ _ => rfl)) (fun z => absurd z hnc) (fun a ⟨j, j0, j1, j2⟩ => Or.inl ⟨j, j0, by have j1 : j < (w : Int) := j1; omega, j2⟩) (fun ω => ⟨fun _ => by
      show sumW ω (iI u 76 w) ((w : Int)).toNat + ω x = _
      rw [show ((w : Int)).toNat = w from by omega, sumW_congr (u := u) (v := iI u 76 w) w (fun _ _ _ => rfl), hwt]
      show _ = sumW ω u w + ω (u.2.1 75 (w : Int))
      rw [hxx], fun z => absurd z hnc⟩)
    show sumK (iI u 76 w) ((w : Int)).toNat = s - 1
    rw [show ((w : Int)).toNat = w from by omega, sumK_congr (u := u) (v := iI u 76 w) rfl rfl w (fun _ _ _ => rfl)]
    omega
