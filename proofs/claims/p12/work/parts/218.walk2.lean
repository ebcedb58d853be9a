/-! hasCall, hasVariable, variablesOf, find -/
/-- S holds of the term and of all terms in it -/
def AllT (u : iST) (S : Int → Prop) (o : Int) : Prop := ∃ G : Int → Prop, (∀ x, G x → S x ∧ (0 ≤ u.2.1 0 x ∧ u.2.1 0 x ≠ 2 → ∃ n : Nat, IsL u (u.2.1 1 x) n ∧ AllE u G (u.2.1 1 x) n)) ∧ G o
theorem AllT.step {u : iST} {S : Int → Prop} {o : Int} (h : AllT u S o) : S o ∧ (0 ≤ u.2.1 0 o ∧ u.2.1 0 o ≠ 2 → ∃ n : Nat, IsL u (u.2.1 1 o) n ∧ AllE u (AllT u S) (u.2.1 1 o) n) := by
  obtain ⟨G, h1, h2⟩ := h
  obtain ⟨a, b⟩ := h1 o h2
  refine ⟨a, fun z => ?_⟩
  obtain ⟨n, c, d⟩ := b z
  exact ⟨n, c, d.imp (fun x hx => ⟨G, h1, hx⟩)⟩
/-- what a walk has seen: everything seen is S, its terms are seen or on the stack -/
def Seen (u : iST) (v : iST) (S : Int → Prop) (V : Int → Prop) : Prop := ∀ x, V x → S x ∧ (0 ≤ u.2.1 0 x ∧ u.2.1 0 x ≠ 2 → ∃ n : Nat, IsL u (u.2.1 1 x) n ∧ AllE u (fun a => V a ∨ OnSt v a) (u.2.1 1 x) n)
theorem Seen.next {u v w : iST} {S V : Int → Prop} {x : Int} (h : Seen u v S V) (hS : S x) (hst : ∀ a, OnSt v a → a = x ∨ OnSt w a) (hc : 0 ≤ u.2.1 0 x ∧ u.2.1 0 x ≠ 2 → ∃ n : Nat, IsL u (u.2.1 1 x) n ∧ AllE u (OnSt w) (u.2.1 1 x) n) : Seen u w S (fun y => V y ∨ y = x) := by
  intro y hy
  rcases hy with hy | rfl
  · obtain ⟨a, b⟩ := h y hy
    refine ⟨a, fun z => ?_⟩
    obtain ⟨n, c, d⟩ := b z
    refine ⟨n, c, d.imp (fun q hq => ?_)⟩
    rcases hq with hq | hq
    · exact Or.inl (Or.inl hq)
    · rcases hst q hq with e | e
      · exact Or.inl (Or.inr e)
      · exact Or.inr e
  · refine ⟨hS, fun z => ?_⟩
    obtain ⟨n, c, d⟩ := hc z
    exact ⟨n, c, d.imp (fun q hq => Or.inr hq)⟩
theorem Seen.done {u v : iST} {S V : Int → Prop} {o : Int} (h : Seen u v S V) (h0 : v.1 76 ≤ 0) (ho : V o ∨ OnSt v o) : AllT u S o := by
  have no : ∀ a, ¬ OnSt v a := fun a ⟨j, j0, j1, _⟩ => by omega
  refine ⟨V, fun x hx => ?_, ho.resolve_right (no o)⟩
  obtain ⟨a, b⟩ := h x hx
  refine ⟨a, fun z => ?_⟩
  obtain ⟨n, c, d⟩ := b z
  exact ⟨n, c, d.imp (fun q hq => hq.resolve_right (no q))⟩
theorem IsL.eq {u v : iST} (hs : ∀ k, k ≤ 11 → v.1 k = u.1 k ∧ v.2.1 k = u.2.1 k) : ∀ {n : Nat} {l : Int}, IsL u l n → IsL v l n
  | 0, _, h => h
  | n + 1, l, ⟨a, b, c, d⟩ => ⟨a, by rw [(hs 8 (by decide)).1]; exact b, by rw [(hs 0 (by decide)).2]; exact c, by rw [(hs 1 (by decide)).2]; exact IsL.eq hs d⟩
theorem AllE.eq {u v : iST} {P : Int → Prop} (hs : ∀ k, k ≤ 11 → v.1 k = u.1 k ∧ v.2.1 k = u.2.1 k) : ∀ {n : Nat} {l : Int}, AllE u P l n → AllE v P l n
  | 0, _, _ => trivial
  | n + 1, l, ⟨a, b⟩ => ⟨by rw [(hs 0 (by decide)).2]; exact a, by rw [(hs 1 (by decide)).2]; exact AllE.eq hs b⟩
/-- one turn of a walk over u, in a state v that differs from u in the rows of walks alone -/
theorem g_walkOn' {f : Nat → Bool} {s : Int} {Q : Int → iST → Prop} {u v : iST} (hf : ∀ k, k ≤ 11 → f k = false) (hf2 : f 75 = true ∧ f 76 = true) (hT : TI u) (hF : Fx f u v) (hL : v.2.2 = u.2.2) (hk : WkI v s) (hs : s ≤ 300) (hp : 0 < v.1 76) (hq : ∀ x w, IsW u x → Fx f u w → Fx fK v w → w.2.2 = u.2.2 → WkI w (s - 1) → (∀ a, OnSt v a → a = x ∨ OnSt w a) → (0 ≤ u.2.1 0 x ∧ u.2.1 0 x ≠ 2 → ∃ n : Nat, IsL u (u.2.1 1 x) n ∧ AllE u (OnSt w) (u.2.1 1 x) n) → OnSt v x → (∀ a, OnSt w a → OnSt v a ∨ ((0 ≤ u.2.1 0 x ∧ u.2.1 0 x ≠ 2) ∧ ∃ n i : Nat, IsL u (u.2.1 1 x) n ∧ i < n ∧ a = el u (u.2.1 1 x) i)) → (∀ ω : Int → Int, (¬ (0 ≤ u.2.1 0 x ∧ u.2.1 0 x ≠ 2) → sumW ω w (w.1 76).toNat + ω x = sumW ω v (v.1 76).toNat) ∧ ((0 ≤ u.2.1 0 x ∧ u.2.1 0 x ≠ 2) → ∃ n : Nat, IsL u (u.2.1 1 x) n ∧ sumW ω w (w.1 76).toNat + ω x = sumW ω v (v.1 76).toNat + preW ω u (u.2.1 1 x) n)) → Q x w) : w_walkOn Q v := by
  have vt : ∀ k, k ≤ 11 → v.1 k = u.1 k ∧ v.2.1 k = u.2.1 k := fun k hk => hF k (hf k hk)
  have vt' : ∀ k, k ≤ 11 → u.1 k = v.1 k ∧ u.2.1 k = v.2.1 k := fun k hk => ⟨(vt k hk).1.symm, (vt k hk).2.symm⟩
  refine g_walkOn (TI_eq hT vt hL) hk hs hp fun x w a1 a1b a2 a3 a4 a5 a6 a7 a8 => hq x w (a1.eq vt') ?_ a2 (a3.trans hL) a4 a5 (fun z => ?_) a1b (fun a ha => (a7 a ha).imp id (fun ⟨b1, n, i, b2, b3, b4⟩ => ?_)) (fun ω => ⟨fun z => (a8 ω).1 (by rw [(vt 0 (by decide)).2]; exact z), fun z => ?_⟩)
  · refine hF.tr (a2.mono (fun k hk => ?_))
    simp only [fK, Bool.or_eq_false_iff, decide_eq_false_iff_not]
    exact ⟨fun e => (by rw [e, hf2.1] at hk; cases hk), fun e => (by rw [e, hf2.2] at hk; cases hk)⟩
  · obtain ⟨n, c, d⟩ := a6 (by rw [(vt 0 (by decide)).2]; exact z)
    rw [(vt 1 (by decide)).2] at c d
    exact ⟨n, c.eq vt', d.eq vt'⟩
  · obtain ⟨n, c, d⟩ := (a8 ω).2 (by rw [(vt 0 (by decide)).2]; exact z)
    rw [(vt 1 (by decide)).2] at c d
    have c' := c.eq vt'
    have ep : ∀ k, k ≤ n → preW ω v (u.2.1 1 x) k = preW ω u (u.2.1 1 x) k := by
      intro k
      induction k with
      | zero => intro _; rfl
      | succ k ih =>
        intro hk
        show preW ω v (u.2.1 1 x) k + ω (el v (u.2.1 1 x) k) = preW ω u (u.2.1 1 x) k + ω (el u (u.2.1 1 x) k)
        rw [ih (by omega), el_ext (Ext_eq vt hL) c' k (by omega)]
    exact ⟨n, c', by rw [d, ep n (Nat.le_refl _)]⟩
  · rw [(vt 0 (by decide)).2] at b1
    rw [(vt 1 (by decide)).2] at b2 b4
    have b2' := b2.eq vt'
    exact ⟨b1, n, i, b2', b3, by rw [b4, el_ext (Ext_eq vt hL) b2' i b3]⟩
theorem wk_start {f : Nat → Bool} {u v : iST} {o : Int} (hf : ∀ k, k ≤ 11 → f k = false) (hF : Fx f u v) (ho : IsW u o) : WkI (iI (iA (iI v 76 0) 75 0 o) 76 (0 + 1)) (sz u o) ∧ OnSt (iI (iA (iI v 76 0) 75 0 o) 76 (0 + 1)) o := by
  have vt : ∀ k, k ≤ 11 → v.1 k = u.1 k ∧ v.2.1 k = u.2.1 k := fun k hk => hF k (hf k hk)
  generalize hz : iI (iA (iI v 76 0) 75 0 o) 76 (0 + 1) = z
  have z75 : ∀ j, z.2.1 75 j = if j = 0 then o else v.2.1 75 j := fun j => by rw [← hz]; rfl
  have z76 : z.1 76 = 1 := by rw [← hz]; rfl
  have zg : ∀ g, g ≠ 75 → z.2.1 g = v.2.1 g := fun g hg => by rw [← hz]; exact if_neg hg
  have zt : ∀ k, k ≤ 11 → z.1 k = u.1 k ∧ z.2.1 k = u.2.1 k := fun k hk => ⟨by rw [← hz]; exact ((if_neg (by omega)).trans (if_neg (by omega))).trans (vt k hk).1, (zg k (by omega)).trans (vt k hk).2⟩
  refine ⟨⟨by omega, fun j j0 j1 => ?_, ?_⟩, ⟨0, by decide, by omega, by rw [z75, if_pos rfl]⟩⟩
  · rw [z75, if_pos (by omega)]; exact ho.eq zt
  · rw [z76]
    show (0 : Int) + sz z (z.2.1 75 ((0 : Nat) : Int)) = sz u o
    rw [z75, if_pos (by omega)]
    unfold sz
    rw [(zt 0 (by decide)).2, (zt 3 (by decide)).2]
    omega
theorem fK_75 : ∀ k, k ≤ 11 → fK k = false := fun k hk => by simp [fK]; omega
/-- 0: no call of f in it -/
theorem g_hasCall {o f : Int} {Q : Int → iST → Prop} {u : iST} (hT : TI u) (ho : IsW u o) (hs : sz u o ≤ 300) (hq : ∀ r v, bz r → Fx fK u v → v.2.2 = u.2.2 → (r = 0 → AllT u (fun x => ¬ (0 ≤ u.2.1 0 x ∧ u.2.1 0 x = f)) o) → Q r v) : w_hasCall o f Q u := by
  have h8 := hT.2.1
  unfold w_hasCall
  refine sw_i (s_walkTo (Int.le_refl _) (show (0 : Int) < 400 by decide) ?_)
  have st := wk_start fK_75 (Fx.rf _ u) ho
  unfold w_hasCall_10
  refine lr1 (B := fun R x2 u => w_hasCall_10b R Q x2 u) (fun N x2 v => x2 = f ∧ Fx fK u v ∧ v.2.2 = u.2.2 ∧ ∃ V, WkI v N ∧ (N : Int) ≤ 300 ∧ Seen u v (fun x => ¬ (0 ≤ u.2.1 0 x ∧ u.2.1 0 x = f)) V ∧ (V o ∨ OnSt v o)) ?_ (n := (sz u o).toNat) ⟨rfl, ((Fx_I (k := 76) rfl).tr (Fx_A (k := 75) rfl)).tr (Fx_I (k := 76) rfl), rfl, fun _ => False, ?_, ?_, fun x hx => absurd hx id, Or.inr st.2⟩
  · intro N x2 v hI R ih
    obtain ⟨rfl, p1, p2, V, p3, p4, p5, p6⟩ := hI
    unfold w_hasCall_10b
    refine rd_i fun _ => br_i (fun hz => zt_0 (hq 0 v (Or.inl rfl) p1 p2 (fun _ => p5.done hz p6))) fun hp => ?_
    have vt : ∀ k, k ≤ 11 → v.1 k = u.1 k ∧ v.2.1 k = u.2.1 k := fun k hk => p1 k (fK_75 k hk)
    have hN : 1 ≤ N := by
      have := sumK_len (TI_eq hT vt p2) (v.1 76).toNat (fun j j0 j1 => p3.2.1 j j0 (by omega))
      rw [p3.2.2] at this
      omega
    refine g_walkOn' fK_75 ⟨rfl, rfl⟩ hT p1 p2 p3 p4 (by omega) fun x w a1 a2 a2b a3 a4 a5 a6 _ _ _ => ?_
    have ar := a1.r
    refine s_isCallOf ar.1 (by omega) fun r _ hr => br_i (fun hz => ?_) (fun hz => zt_1 (hq 1 w (Or.inr rfl) a2 a3 (fun z => absurd z (by decide))))
    have e0 : w.2.1 0 = u.2.1 0 := fx_a a2 0 rfl
    rw [e0] at hr
    refine ih (N - 1) _ _ (by omega) ⟨rfl, a2, a3, fun y => V y ∨ y = x, ?_, by omega, p5.next (fun z => hr.mpr z hz) a5 a6, ?_⟩
    · have : ((N - 1 : Nat) : Int) = (N : Int) - 1 := by omega
      rw [this]; exact a4
    · rcases p6 with p6 | p6
      · exact Or.inl (Or.inl p6)
      · rcases a5 o p6 with e | e
        · exact Or.inl (Or.inr e)
        · exact Or.inr e
  · have := ho.szr hT
    rw [show (((sz u o).toNat : Nat) : Int) = sz u o from by omega]
    exact st.1
  · have := ho.szr hT
    omega
theorem g_hasVariable {o f : Int} {Q : Int → iST → Prop} {u : iST} (hT : TI u) (ho : IsW u o) (hs : sz u o ≤ 300) (hq : ∀ r v, bz r → Fx fK u v → v.2.2 = u.2.2 → Q r v) : w_hasVariable o f Q u := by
  have h8 := hT.2.1
  unfold w_hasVariable
  refine sw_i (s_walkTo (Int.le_refl _) (show (0 : Int) < 400 by decide) ?_)
  have st := wk_start fK_75 (Fx.rf _ u) ho
  unfold w_hasVariable_10
  refine lr1 (B := fun R x2 u => w_hasVariable_10b R Q x2 u) (fun N x2 v => x2 = f ∧ Fx fK u v ∧ v.2.2 = u.2.2 ∧ WkI v N ∧ (N : Int) ≤ 300) ?_ (n := (sz u o).toNat) ⟨rfl, ((Fx_I (k := 76) rfl).tr (Fx_A (k := 75) rfl)).tr (Fx_I (k := 76) rfl), rfl, ?_, ?_⟩
  · intro N x2 v hI R ih
    obtain ⟨rfl, p1, p2, p3, p4⟩ := hI
    unfold w_hasVariable_10b
    refine rd_i fun _ => br_i (fun hz => zt_0 (hq 0 v (Or.inl rfl) p1 p2)) fun hp => ?_
    have vt : ∀ k, k ≤ 11 → v.1 k = u.1 k ∧ v.2.1 k = u.2.1 k := fun k hk => p1 k (fK_75 k hk)
    have hN : 1 ≤ N := by
      have := sumK_len (TI_eq hT vt p2) (v.1 76).toNat (fun j j0 j1 => p3.2.1 j j0 (by omega))
      rw [p3.2.2] at this
      omega
    refine g_walkOn' fK_75 ⟨rfl, rfl⟩ hT p1 p2 p3 p4 (by omega) fun x w a1 a2 a2b a3 a4 a5 a6 _ _ _ => br_i (fun _ => ?_) (fun _ => zt_1 (hq 1 w (Or.inr rfl) a2 a3))
    refine ih (N - 1) _ _ (by omega) ⟨rfl, a2, a3, ?_, by omega⟩
    have : ((N - 1 : Nat) : Int) = (N : Int) - 1 := by omega
    rw [this]; exact a4
  · have := ho.szr hT
    rw [show (((sz u o).toNat : Nat) : Int) = sz u o from by omega]
    exact st.1
  · have := ho.szr hT
    omega
def fV (k : Nat) : Bool := decide (75 ≤ k) && decide (k ≤ 78)
theorem fV_75 : ∀ k, k ≤ 11 → fV k = false := fun k hk => by simp [fV]; omega
/-- the variables that were found -/
def Its (v : iST) (x : Int) : Prop := ∃ j, 0 ≤ j ∧ j < v.1 78 ∧ v.2.1 77 j = x
theorem g_variablesOf {o : Int} {Q : iST → Prop} {u : iST} (hT : TI u) (ho : IsW u o) (hs : sz u o ≤ 125) (hq : ∀ v, Fx fV u v → v.2.2 = u.2.2 → 0 ≤ v.1 78 → v.1 78 ≤ sz u o → (∀ j, 0 ≤ j → j < v.1 78 → u.2.1 0 (v.2.1 77 j) = -2 ∧ 0 ≤ v.2.1 77 j ∧ v.2.1 77 j < u.1 8) → AllT u (fun x => u.2.1 0 x = -2 ∧ x ≠ 0 ∧ x ≠ 1 → Its v x) o → Q v) : w_variablesOf o Q u := by
  have h8 := hT.2.1
  have hsz := ho.szr hT
  unfold w_variablesOf
  refine sw_i (sw_i (s_walkTo (Int.le_refl _) (show (0 : Int) < 400 by decide) ?_))
  have st := wk_start (u := u) (v := iI u 78 0) fV_75 (Fx_I (k := 78) rfl) ho
  unfold w_variablesOf_15
  refine lr0 (B := fun R u => w_variablesOf_15b R Q u) (fun N v => Fx fV u v ∧ v.2.2 = u.2.2 ∧ ∃ V, WkI v N ∧ 0 ≤ v.1 78 ∧ v.1 78 + N ≤ sz u o ∧ (∀ j, 0 ≤ j → j < v.1 78 → u.2.1 0 (v.2.1 77 j) = -2 ∧ 0 ≤ v.2.1 77 j ∧ v.2.1 77 j < u.1 8) ∧ Seen u v (fun x => u.2.1 0 x = -2 ∧ x ≠ 0 ∧ x ≠ 1 → Its v x) V ∧ (V o ∨ OnSt v o)) ?_ (n := (sz u o).toNat) ⟨(((Fx_I (k := 78) rfl).tr (Fx_I (k := 76) rfl)).tr (Fx_A (k := 75) rfl)).tr (Fx_I (k := 76) rfl), rfl, fun _ => False, ?_, Int.le_refl _, ?_, fun j j0 j1 => by have j1 : j < 0 := j1; omega, fun x hx => absurd hx id, Or.inr st.2⟩
  · intro N v hI R ih
    obtain ⟨p1, p2, V, p3, p4, p5, p6, p7, p8⟩ := hI
    unfold w_variablesOf_15b
    refine rd_i fun _ => br_i (fun hz => hq v p1 p2 p4 (by omega) p6 (p7.done hz p8)) fun hp => ?_
    have vt : ∀ k, k ≤ 11 → v.1 k = u.1 k ∧ v.2.1 k = u.2.1 k := fun k hk => p1 k (fV_75 k hk)
    have hN : 1 ≤ N := by
      have := sumK_len (TI_eq hT vt p2) (v.1 76).toNat (fun j j0 j1 => p3.2.1 j j0 (by omega))
      rw [p3.2.2] at this
      omega
    refine g_walkOn' fV_75 ⟨rfl, rfl⟩ hT p1 p2 p3 (by omega) (by omega) fun x w a1 a2 a2b a3 a4 a5 a6 _ _ _ => ?_
    have ar := a1.r
    have e0 : w.2.1 0 = u.2.1 0 := fx_a a2 0 rfl
    have e77 : w.2.1 77 = v.2.1 77 := fx_a a2b 77 rfl
    have e78 : w.1 78 = v.1 78 := fx_s a2b 78 rfl
    have eN : ((N - 1 : Nat) : Int) = (N : Int) - 1 := by omega
    have ons : ∀ z : iST, z.1 76 = w.1 76 → z.2.1 75 = w.2.1 75 → ∀ a, OnSt w a → OnSt z a := fun z z1 z2 a ⟨j, j0, j1, j2⟩ => ⟨j, j0, by omega, by rw [z2]; exact j2⟩
    have step : ∀ z : iST, Fx fV u z → z.2.2 = u.2.2 → WkI z (N - 1) → z.1 76 = w.1 76 → z.2.1 75 = w.2.1 75 → v.1 78 ≤ z.1 78 → z.1 78 ≤ v.1 78 + 1 → (∀ j, 0 ≤ j → j < v.1 78 → z.2.1 77 j = v.2.1 77 j) → (v.1 78 < z.1 78 → z.2.1 77 (v.1 78) = x ∧ u.2.1 0 x = -2) → (u.2.1 0 x = -2 ∧ x ≠ 0 ∧ x ≠ 1 → Its z x) → R z := by
      intro z z1 z2 z3 z4 z5 z6 z7 z8 z9 z10
      have mono : ∀ y, Its v y → Its z y := fun y ⟨j, j0, j1, j2⟩ => ⟨j, j0, by omega, by rw [z8 j j0 j1]; exact j2⟩
      refine ih (N - 1) z (by omega) ⟨z1, z2, fun y => V y ∨ y = x, by rw [eN]; exact z3, by omega, by omega, fun j j0 j1 => ?_, ?_, ?_⟩
      · by_cases e : j < v.1 78
        · rw [z8 j j0 e]; exact p6 j j0 e
        · have ej : j = v.1 78 := by omega
          obtain ⟨q1, q2⟩ := z9 (by omega)
          rw [ej, q1]
          exact ⟨q2, ar⟩
      · have p7' : Seen u v (fun x => u.2.1 0 x = -2 ∧ x ≠ 0 ∧ x ≠ 1 → Its z x) V := fun y hy => ⟨fun q => mono y ((p7 y hy).1 q), (p7 y hy).2⟩
        refine p7'.next z10 (fun a ha => (a5 a ha).imp id (ons z z4 z5 a)) (fun q => ?_)
        obtain ⟨n, c, d⟩ := a6 q
        exact ⟨n, c, d.imp (ons z z4 z5)⟩
      · rcases p8 with p8 | p8
        · exact Or.inl (Or.inl p8)
        · rcases a5 o p8 with e | e
          · exact Or.inl (Or.inr e)
          · exact Or.inr (ons z z4 z5 o e)
    refine s_isVariable ar.1 (by omega) fun r hrb hr => ?_
    rw [e0] at hr
    unfold w_variablesOf_36
    refine lf3 (B := fun R36 x2 x3 x4 u => w_variablesOf_36b R R36 Q x2 x3 x4 u) (fun x2 x3 x4 z => z = w ∧ x2 = x ∧ 0 ≤ x4 ∧ x4 ≤ v.1 78 ∧ (x3 ≠ 0 → u.2.1 0 x = -2) ∧ (x3 = 0 → (u.2.1 0 x = -2 ∧ x ≠ 0 ∧ x ≠ 1) → Its v x)) (fun _ _ x4 _ => (v.1 78 - x4).toNat) ?_ ⟨rfl, rfl, Int.le_refl _, p4, fun z => (hr.mp z).1, fun z q => absurd z (hr.mpr q)⟩
    intro x2 x3 x4 z hI R36 ih2
    obtain ⟨rfl, rfl, q1, q2, q3, q4⟩ := hI
    have k72 : w_variablesOf_72 R Q x2 x3 z := by
      unfold w_variablesOf_72
      refine br_i (fun hz => rd_i fun _ => bd_i (by omega) (by omega) (sw_i (rd_i fun _ => ov_i (show -2147483648 ≤ z.1 78 + 1 by omega) (show z.1 78 + 1 < 2147483648 by omega) (sw_i ?_)))) (fun hz => ?_)
      · have hF2 : Fx fV z (iI (iA z 77 (z.1 78) x2) 78 (z.1 78 + 1)) := (Fx_A (k := 77) rfl).tr (Fx_I (k := 78) rfl)
        refine step _ (a2.tr hF2) a3 ⟨a4.1, fun j j0 j1 => (a4.2.1 j j0 j1).eq (fun k hk => hF2 k (fV_75 k hk)), ?_⟩ rfl rfl (show v.1 78 ≤ z.1 78 + 1 by omega) (show z.1 78 + 1 ≤ v.1 78 + 1 by omega) (fun j j0 j1 => ?_) (fun _ => ⟨?_, q3 hz⟩) (fun _ => ⟨z.1 78, by omega, show z.1 78 < z.1 78 + 1 by omega, if_pos rfl⟩)
        · show sumK (iI (iA z 77 (z.1 78) x2) 78 (z.1 78 + 1)) (z.1 76).toNat = _
          rw [sumK_congr (u := z) (v := iI (iA z 77 (z.1 78) x2) 78 (z.1 78 + 1)) rfl rfl _ (fun _ _ _ => rfl)]
          exact a4.2.2
        · show (if j = z.1 78 then x2 else z.2.1 77 j) = v.2.1 77 j
          rw [if_neg (by omega), e77]
        · show (if v.1 78 = z.1 78 then x2 else z.2.1 77 (v.1 78)) = x2
          rw [if_pos e78.symm]
      · have hz : x3 = 0 := by omega
        refine step z a2 a3 a4 rfl rfl (by omega) (by omega) (fun j j0 j1 => by rw [e77]) (fun q => by omega) (fun q => ?_)
        obtain ⟨j, j0, j1, j2⟩ := q4 hz q
        exact ⟨j, j0, by omega, by rw [e77]; exact j2⟩
    unfold w_variablesOf_36b
    refine rd_i fun _ => br_i (fun _ => k72) fun hlt => br_i (fun _ => k72) fun hx3 => bd_i q1 (by omega) (rd_i fun _ => br_i (fun he => ov_i (by omega) (by omega) (ih2 _ _ _ _ ⟨rfl, rfl, by omega, by omega, fun q => absurd rfl q, fun _ _ => ?_⟩ (by omega))) fun he => ov_i (by omega) (by omega) (ih2 _ _ _ _ ⟨rfl, rfl, by omega, by omega, fun _ => q3 hx3, fun q => absurd q (by decide)⟩ (by omega)))
    exact ⟨x4, q1, by omega, by rw [← e77]; exact he⟩
  · rw [show (((sz u o).toNat : Nat) : Int) = sz u o from by omega]
    exact st.1
  · show (0 : Int) + ((sz u o).toNat : Int) ≤ sz u o
    omega
