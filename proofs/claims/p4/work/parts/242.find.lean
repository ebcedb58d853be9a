/-! find; names -/
def fFd (k : Nat) : Bool := decide (k = 75) || decide (k = 76) || decide (k = 130) || decide (k = 131)
theorem fFd_t : ∀ k, k ≤ 11 → fFd k = false := fun k hk => by simp [fFd]; omega
def Hered (u : iST) (P : Int → Prop) : Prop := ∀ x, P x → (0 ≤ u.2.1 0 x ∧ u.2.1 0 x ≠ 2) → ∀ n : Nat, IsL u (u.2.1 1 x) n → ∀ i, i < n → P (el u (u.2.1 1 x) i)
/-- what was found -/
def Found (u : iST) (P : Int → Prop) (f : Int) (v : iST) : Prop := 0 ≤ v.1 131 ∧ ∀ j, 0 ≤ j → j < v.1 131 → P (v.2.1 130 j) ∧ IsW u (v.2.1 130 j) ∧ 0 ≤ u.2.1 0 (v.2.1 130 j) ∧ u.2.1 0 (v.2.1 130 j) = f
def InF (v : iST) (x : Int) : Prop := ∃ j, 0 ≤ j ∧ j < v.1 131 ∧ v.2.1 130 j = x
theorem g_find {o f : Int} {P : Int → Prop} {Q : iST → Prop} {u : iST} (hT : TI u) (hP : Hered u P) (ho : IsW u o) (hPo : P o) (hs : sz u o ≤ 125) (hq : ∀ v, Fx fFd u v → v.2.2 = u.2.2 → v.1 131 ≤ sz u o → Found u P f v → AllT u (fun x => 0 ≤ u.2.1 0 x ∧ u.2.1 0 x = f → InF v x) o → Q v) : w_find o f Q u := by
  have h8 := hT.2.1
  have hsz := ho.szr hT
  unfold w_find
  refine sw_i (sw_i (s_walkTo (Int.le_refl _) (show (0 : Int) < 400 by decide) ?_))
  have st := wk_start (u := u) (v := iI u 131 0) fFd_t (Fx_I (k := 131) rfl) ho
  unfold w_find_15
  refine lr1 (B := fun R x2 u => w_find_15b R Q x2 u) (fun N x2 v => x2 = f ∧ Fx fFd u v ∧ v.2.2 = u.2.2 ∧ ∃ V, WkI v N ∧ v.1 131 + N ≤ sz u o ∧ (∀ a, OnSt v a → P a) ∧ Found u P f v ∧ Seen u v (fun x => 0 ≤ u.2.1 0 x ∧ u.2.1 0 x = f → InF v x) V ∧ (V o ∨ OnSt v o)) ?_ (n := (sz u o).toNat) ⟨rfl, (((Fx_I (k := 131) rfl).tr (Fx_I (k := 76) rfl)).tr (Fx_A (k := 75) rfl)).tr (Fx_I (k := 76) rfl), rfl, fun _ => False, ?_, ?_, fun a ⟨j, j0, j1, j2⟩ => ?_, ⟨Int.le_refl _, fun j j0 j1 => by have j1 : j < 0 := j1; omega⟩, fun x hx => absurd hx id, Or.inr st.2⟩
  · intro N x2 v hI R ih
    obtain ⟨rfl, p1, p2, V, p3, p5, p6, ⟨p4, p7⟩, p9, p10⟩ := hI
    unfold w_find_15b
    refine rd_i fun _ => br_i (fun hz => hq v p1 p2 (by omega) ⟨p4, p7⟩ (p9.done hz p10)) fun hp => ?_
    have vt : ∀ k, k ≤ 11 → v.1 k = u.1 k ∧ v.2.1 k = u.2.1 k := fun k hk => p1 k (fFd_t k hk)
    have hN : 1 ≤ N := by
      have := sumK_len (TI_eq hT vt p2) (v.1 76).toNat (fun j j0 j1 => p3.2.1 j j0 (by omega))
      rw [p3.2.2] at this
      omega
    refine g_walkOn' fFd_t ⟨rfl, rfl⟩ hT p1 p2 p3 (by omega) (by omega) fun x w a1 a2 a2b a3 a4 a5 a6 a7 a8 => ?_
    have ar := a1.r
    have e0 : w.2.1 0 = u.2.1 0 := fx_a a2 0 rfl
    have e130 : w.2.1 130 = v.2.1 130 := fx_a a2b 130 rfl
    have e131 : w.1 131 = v.1 131 := fx_s a2b 131 rfl
    have eN : ((N - 1 : Nat) : Int) = (N : Int) - 1 := by omega
    have Px := p6 x a7
    have onP : ∀ a, OnSt w a → P a := fun a ha => by
      rcases a8 a ha with q | ⟨q1, n, i, q2, q3, q4⟩
      · exact p6 a q
      · rw [q4]; exact hP x Px q1 n q2 i q3
    have hcase : ∀ z : iST, z.1 76 = w.1 76 → z.2.1 75 = w.2.1 75 → (∀ y, InF v y → InF z y) → (0 ≤ u.2.1 0 x ∧ u.2.1 0 x = x2 → InF z x) → Seen u z (fun x => 0 ≤ u.2.1 0 x ∧ u.2.1 0 x = x2 → InF z x) (fun y => V y ∨ y = x) ∧ ((V o ∨ o = x) ∨ OnSt z o) := by
      intro z z4 z5 mono hx
      have ons : ∀ a, OnSt w a → OnSt z a := fun a ⟨j, j0, j1, j2⟩ => ⟨j, j0, by omega, by rw [z5]; exact j2⟩
      constructor
      · have p9' : Seen u v (fun x => 0 ≤ u.2.1 0 x ∧ u.2.1 0 x = x2 → InF z x) V := fun y hy => ⟨fun q => mono y ((p9 y hy).1 q), (p9 y hy).2⟩
        refine p9'.next hx (fun a ha => (a5 a ha).imp id (ons a)) (fun q => ?_)
        obtain ⟨n, c, d⟩ := a6 q
        exact ⟨n, c, d.imp ons⟩
      · rcases p10 with p10 | p10
        · exact Or.inl (Or.inl p10)
        · rcases a5 o p10 with e | e
          · exact Or.inl (Or.inr e)
          · exact Or.inr (ons o e)
    refine s_isCallOf ar.1 (by omega) fun r _ hr => ?_
    rw [e0] at hr
    refine br_i (fun hz => rd_i fun _ => bd_i (by omega) (by omega) (sw_i (rd_i fun _ => ov_i (show -2147483648 ≤ w.1 131 + 1 by omega) (show w.1 131 + 1 < 2147483648 by omega) (sw_i ?_)))) (fun hz => ?_)
    · show R x2 (iI (iA w 130 (w.1 131) x) 131 (w.1 131 + 1))
      have hF2 : Fx fFd w (iI (iA w 130 (w.1 131) x) 131 (w.1 131 + 1)) := (Fx_A (k := 130) rfl).tr (Fx_I (k := 131) rfl)
      have hc := hcase (iI (iA w 130 (w.1 131) x) 131 (w.1 131 + 1)) rfl rfl (fun y ⟨j, j0, j1, j2⟩ => ⟨j, j0, show j < w.1 131 + 1 by omega, by
        have ej : (iI (iA w 130 (w.1 131) x) 131 (w.1 131 + 1)).2.1 130 j = if j = w.1 131 then x else w.2.1 130 j := iA_same
        rw [ej, if_neg (by omega), e130]; exact j2⟩) (fun _ => ⟨w.1 131, by omega, show w.1 131 < w.1 131 + 1 by omega, if_pos rfl⟩)
      refine ih (N - 1) _ _ (by omega) ⟨rfl, a2.tr hF2, a3, fun y => V y ∨ y = x, ⟨a4.1, fun j j0 j1 => (a4.2.1 j j0 j1).eq (fun k hk => hF2 k (fFd_t k hk)), ?_⟩, ?_, fun a ha => onP a ha, ⟨show 0 ≤ w.1 131 + 1 by omega, fun j j0 j1 => ?_⟩, hc.1, hc.2⟩
      · rw [eN]
        show sumK (iI (iA w 130 (w.1 131) x) 131 (w.1 131 + 1)) (w.1 76).toNat = _
        rw [sumK_congr (u := w) (v := iI (iA w 130 (w.1 131) x) 131 (w.1 131 + 1)) rfl rfl _ (fun _ _ _ => rfl)]
        exact a4.2.2
      · show w.1 131 + 1 + ((N - 1 : Nat) : Int) ≤ sz u o
        omega
      · have j1 : j < w.1 131 + 1 := j1
        have ej : (iI (iA w 130 (w.1 131) x) 131 (w.1 131 + 1)).2.1 130 j = if j = w.1 131 then x else w.2.1 130 j := iA_same
        rw [ej]
        split
        · exact ⟨Px, a1, hr.mp hz⟩
        · rw [e130]; exact p7 j j0 (by omega)
    · have hc := hcase w rfl rfl (fun y ⟨j, j0, j1, j2⟩ => ⟨j, j0, by omega, by rw [e130]; exact j2⟩) (fun q => absurd (hr.mpr q) hz)
      refine ih (N - 1) _ _ (by omega) ⟨rfl, a2, a3, fun y => V y ∨ y = x, by rw [eN]; exact a4, by omega, onP, ⟨by omega, fun j j0 j1 => by rw [e130]; exact p7 j j0 (by omega)⟩, hc.1, hc.2⟩
  · rw [show (((sz u o).toNat : Nat) : Int) = sz u o from by omega]
    exact st.1
  · show (0 : Int) + ((sz u o).toNat : Int) ≤ sz u o
    omega
  · have j1 : j < 1 := j1
    have : j = 0 := by omega
    subst this
    rw [← j2]
    exact hPo
theorem s_isNewName {x : Int} {Q : Int → iST → Prop} {u : iST} (x0 : 0 ≤ x) (x1 : x < 452000) (hq : ∀ b, bz b → (b ≠ 0 → u.2.1 0 x = -2 ∧ 16 < x) → Q b u) : w_isNewName x Q u := by
  unfold w_isNewName
  refine s_isSymbol x0 x1 fun r _ hr => br_i (fun _ => zt_0 (hq 0 (Or.inl rfl) (fun z => absurd rfl z))) fun hz => ?_
  unfold w_isReserved
  refine br_i (fun h => absurd h (by omega)) fun _ => br_i (fun h => zt_0 (br_n (by decide) (zt_1 (hq 1 (Or.inr rfl) (fun _ => ⟨?_, h⟩))))) fun _ => zt_1 (br_y (by decide) (zt_0 (hq 0 (Or.inl rfl) (fun z => absurd rfl z))))
  have : ¬ (u.2.1 0 x ≠ -2) := fun z => hz (hr.mpr z)
  omega
theorem TJ.hered {u : iST} (hT : TI u) : Hered u (TJ u) := fun x hx hc n hl i hi => by
  obtain ⟨m, a, b, c, d⟩ := hx.args hT hc
  have := IsL_uniq hT c hl
  subst this
  exact d.el i hi
