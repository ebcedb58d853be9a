/-! find; names -/
def fFd (k : Nat) : Bool := decide (k = 75) || decide (k = 76) || decide (k = 130) || decide (k = 131)
theorem fFd_t : ∀ k, k ≤ 11 → fFd k = false := fun k hk => by simp [fFd]; omega
def Hered (u : iST) (P : Int → Prop) : Prop := ∀ x, P x → (0 ≤ u.2.1 0 x ∧ u.2.1 0 x ≠ 2) → ∀ n : Nat, IsL u (u.2.1 1 x) n → ∀ i, i < n → P (el u (u.2.1 1 x) i)
theorem AllT.hered {u : iST} (hT : TI u) (S : Int → Prop) : Hered u (AllT u S) := fun x hx hc n hl i hi => by
  obtain ⟨m, c, d⟩ := hx.step.2 hc
  have := IsL_uniq hT c hl
  subst this
  exact d.el i hi
/-- no call of f in it -/
def NoF (u : iST) (f : Int) (o : Int) : Prop := AllT u (fun x => ¬ (0 ≤ u.2.1 0 x ∧ u.2.1 0 x = f)) o
def Arg1 (u : iST) (f : Int) (x : Int) : Prop := 0 ≤ u.2.1 0 x ∧ u.2.1 0 x = f → ∀ n i : Nat, IsL u (u.2.1 1 x) n → i < n → NoF u f (el u (u.2.1 1 x) i)
theorem sumK_mem {u : iST} (hT : TI u) : ∀ (n : Nat), (∀ j, 0 ≤ j → j < (n : Int) → IsW u (u.2.1 75 j)) → ∀ j, 0 ≤ j → j < (n : Int) → sz u (u.2.1 75 j) ≤ sumK u n
  | 0, _, j, j0, j1 => by omega
  | n + 1, h, j, j0, j1 => by
    have h1 := sumK_len hT n (fun j j0 j1 => h j j0 (by omega))
    have h2 := (h n (by omega) (by omega)).szr hT
    show sz u (u.2.1 75 j) ≤ sumK u n + sz u (u.2.1 75 (n : Int))
    by_cases e : j = n
    · rw [e]; omega
    · have := sumK_mem hT n (fun j j0 j1 => h j j0 (by omega)) j j0 (by omega)
      omega
/-- the weight of a term in which a call of f may be -/
noncomputable def wF (u : iST) (f : Int) (a : Int) : Int := @ite Int (NoF u f a) (Classical.propDecidable _) 0 (sz u a)
theorem wF_0 {u : iST} {f a : Int} (h : NoF u f a) : wF u f a = 0 := by unfold wF; rw [if_pos h]
theorem wF_1 {u : iST} {f a : Int} (h : ¬ NoF u f a) : wF u f a = sz u a := by unfold wF; rw [if_neg h]
theorem wF_r {u : iST} (hT : TI u) {f a : Int} (ha : IsW u a) : 0 ≤ wF u f a ∧ wF u f a ≤ sz u a := by
  have hs := ha.szr hT
  by_cases h : NoF u f a
  · rw [wF_0 h]; omega
  · rw [wF_1 h]; omega
theorem preW_0 {u : iST} {ω : Int → Int} {l : Int} : ∀ (n : Nat), (∀ i, i < n → ω (el u l i) = 0) → preW ω u l n = 0
  | 0, _ => rfl
  | n + 1, h => by
    show preW ω u l n + ω (el u l n) = 0
    rw [preW_0 n (fun i hi => h i (by omega)), h n (by omega)]
    rfl
theorem preW_S {u : iST} {ω : Int → Int} {l : Int} : ∀ (n : Nat), (∀ i, i < n → ω (el u l i) ≤ sz u (el u l i)) → preW ω u l n ≤ preS u l n
  | 0, _ => Int.le_refl _
  | n + 1, h => by
    have h1 := preW_S n (fun i hi => h i (by omega))
    have h2 := h n (by omega)
    show preW ω u l n + ω (el u l n) ≤ preS u l n + sz u (el u l n)
    omega
/-- a list of objects and their sizes -/
def sumF (u : iST) (r : Int → Int) : Nat → Int
  | 0 => 0
  | n + 1 => sumF u r n + sz u (r (n : Int))
theorem sumF_congr {u : iST} {r s : Int → Int} : ∀ (n : Nat), (∀ j : Nat, j < n → s j = r j) → sumF u s n = sumF u r n
  | 0, _ => rfl
  | n + 1, h => by
    show sumF u s n + sz u (s (n : Int)) = sumF u r n + sz u (r (n : Int))
    rw [sumF_congr n (fun j hj => h j (by omega)), h n (by omega)]
/-- what was found -/
def Found (u : iST) (P : Int → Prop) (f : Int) (v : iST) : Prop := 0 ≤ v.1 131 ∧ ∀ j, 0 ≤ j → j < v.1 131 → P (v.2.1 130 j) ∧ IsW u (v.2.1 130 j) ∧ 0 ≤ u.2.1 0 (v.2.1 130 j) ∧ u.2.1 0 (v.2.1 130 j) = f
def InF (v : iST) (x : Int) : Prop := ∃ j, 0 ≤ j ∧ j < v.1 131 ∧ v.2.1 130 j = x
theorem g_find {o f : Int} {P : Int → Prop} {Q : iST → Prop} {u : iST} (hT : TI u) (hP : Hered u P) (ho : IsW u o) (hPo : P o) (hs : sz u o ≤ 125) (hq : ∀ v, Fx fFd u v → v.2.2 = u.2.2 → v.1 131 ≤ sz u o → Found u P f v → AllT u (fun x => 0 ≤ u.2.1 0 x ∧ u.2.1 0 x = f → InF v x) o → (AllT u (Arg1 u f) o → f ≠ 2 → sumF u (v.2.1 130) (v.1 131).toNat ≤ sz u o) → Q v) : w_find o f Q u := by
  have h8 := hT.2.1
  have hsz := ho.szr hT
  unfold w_find
  refine sw_i (sw_i (s_walkTo (Int.le_refl _) (show (0 : Int) < 400 by decide) ?_))
  have st := wk_start (u := u) (v := iI u 131 0) fFd_t (Fx_I (k := 131) rfl) ho
  unfold w_find_15
  refine lr1 (B := fun R x2 u => w_find_15b R Q x2 u) (fun N x2 v => x2 = f ∧ Fx fFd u v ∧ v.2.2 = u.2.2 ∧ ∃ V, WkI v N ∧ v.1 131 + N ≤ sz u o ∧ (∀ a, OnSt v a → P a) ∧ Found u P f v ∧ Seen u v (fun x => 0 ≤ u.2.1 0 x ∧ u.2.1 0 x = f → InF v x) V ∧ (V o ∨ OnSt v o) ∧ (AllT u (Arg1 u f) o → f ≠ 2 → sumF u (v.2.1 130) (v.1 131).toNat + sumW (wF u f) v (v.1 76).toNat ≤ sz u o ∧ ∀ a, OnSt v a → AllT u (Arg1 u f) a)) ?_ (n := (sz u o).toNat) ⟨rfl, (((Fx_I (k := 131) rfl).tr (Fx_I (k := 76) rfl)).tr (Fx_A (k := 75) rfl)).tr (Fx_I (k := 76) rfl), rfl, fun _ => False, ?_, ?_, fun a ⟨j, j0, j1, j2⟩ => ?_, ⟨Int.le_refl _, fun j j0 j1 => by have j1 : j < 0 := j1; omega⟩, fun x hx => absurd hx id, Or.inr st.2, fun hA _ => ⟨?_, fun a ⟨j, j0, j1, j2⟩ => ?_⟩⟩
  · intro N x2 v hI R ih
    obtain ⟨rfl, p1, p2, V, p3, p5, p6, ⟨p4, p7⟩, p9, p10, p11⟩ := hI
    unfold w_find_15b
    refine rd_i fun _ => br_i (fun hz => hq v p1 p2 (by omega) ⟨p4, p7⟩ (p9.done hz p10) (fun hA hf2 => by
      have h1 := (p11 hA hf2).1
      rw [show (v.1 76).toNat = 0 from by omega] at h1
      have h1 : sumF u (v.2.1 130) (v.1 131).toNat + 0 ≤ sz u o := h1
      omega)) fun hp => ?_
    have vt : ∀ k, k ≤ 11 → v.1 k = u.1 k ∧ v.2.1 k = u.2.1 k := fun k hk => p1 k (fFd_t k hk)
    have hN : 1 ≤ N := by
      have := sumK_len (TI_eq hT vt p2) (v.1 76).toNat (fun j j0 j1 => p3.2.1 j j0 (by omega))
      rw [p3.2.2] at this
      omega
    refine g_walkOn' fFd_t ⟨rfl, rfl⟩ hT p1 p2 p3 (by omega) (by omega) fun x w a1 a2 a2b a3 a4 a5 a6 a7 a8 a9 => ?_
    have ar := a1.r
    have e0 : w.2.1 0 = u.2.1 0 := fx_a a2 0 rfl
    have e130 : w.2.1 130 = v.2.1 130 := fx_a a2b 130 rfl
    have e131 : w.1 131 = v.1 131 := fx_s a2b 131 rfl
    have eN : ((N - 1 : Nat) : Int) = (N : Int) - 1 := by omega
    have Px := p6 x a7
    have onP : ∀ a, OnSt w a → P a := fun a ha => by
      rcases a8 a ha with q | ⟨q1, n, i, q2, q3, q4⟩
      · exact p6 a q
      · rw [q4]; exact hP x Px q1 n q2 i q3
    have hcase : ∀ z : iST, z.1 76 = w.1 76 → z.2.1 75 = w.2.1 75 → (∀ y, InF v y → InF z y) → (0 ≤ u.2.1 0 x ∧ u.2.1 0 x = x2 → InF z x) → Seen u z (fun x => 0 ≤ u.2.1 0 x ∧ u.2.1 0 x = x2 → InF z x) (fun y => V y ∨ y = x) ∧ ((V o ∨ o = x) ∨ OnSt z o) := by
      intro z z4 z5 mono hx
      have ons : ∀ a, OnSt w a → OnSt z a := fun a ⟨j, j0, j1, j2⟩ => ⟨j, j0, by omega, by rw [z5]; exact j2⟩
      constructor
      · have p9' : Seen u v (fun x => 0 ≤ u.2.1 0 x ∧ u.2.1 0 x = x2 → InF z x) V := fun y hy => ⟨fun q => mono y ((p9 y hy).1 q), (p9 y hy).2⟩
        refine p9'.next hx (fun a ha => (a5 a ha).imp id (ons a)) (fun q => ?_)
        obtain ⟨n, c, d⟩ := a6 q
        exact ⟨n, c, d.imp ons⟩
      · rcases p10 with p10 | p10
        · exact Or.inl (Or.inl p10)
        · rcases a5 o p10 with e | e
          · exact Or.inl (Or.inr e)
          · exact Or.inr (ons o e)
    -- the weights
    have onA : AllT u (Arg1 u x2) o → x2 ≠ 2 → ∀ a, OnSt w a → AllT u (Arg1 u x2) a := fun hA hf2 a ha => by
      have h2 := (p11 hA hf2).2
      rcases a8 a ha with q | ⟨q1, n, i, q2, q3, q4⟩
      · exact h2 a q
      · rw [q4]; exact AllT.hered hT _ x (h2 x a7) q1 n q2 i q3
    have wno : AllT u (Arg1 u x2) o → x2 ≠ 2 → ¬ (0 ≤ u.2.1 0 x ∧ u.2.1 0 x = x2) → sumW (wF u x2) w (w.1 76).toNat ≤ sumW (wF u x2) v (v.1 76).toNat := fun hA hf2 hnc => by
      have h9 := a9 (wF u x2)
      have hwx := wF_r (f := x2) hT a1
      by_cases hc : 0 ≤ u.2.1 0 x ∧ u.2.1 0 x ≠ 2
      · obtain ⟨n, c1, c2⟩ := h9.2 hc
        obtain ⟨m, m6, ml, ma, ms⟩ := a1.call hc
        have := IsL_uniq hT ml c1
        subst this
        by_cases hN0 : NoF u x2 x
        · have := preW_0 (ω := wF u x2) m (fun i hi => wF_0 (AllT.hered hT _ x hN0 hc m c1 i hi))
          omega
        · have h3 := preW_S (ω := wF u x2) (l := u.2.1 1 x) m (fun i hi => (wF_r hT (ma.el i hi)).2)
          rw [preS_sum] at h3
          have h4 := wF_1 hN0
          rw [ms] at h4
          unfold capS at h4
          have h5 : sz u x ≤ sz u o := by
            obtain ⟨j, j0, j1, j2⟩ := a7
            have h7 := sumK_mem (TI_eq hT vt p2) (v.1 76).toNat (fun j j0 j1 => p3.2.1 j j0 (by omega)) j j0 (by omega)
            rw [p3.2.2, j2] at h7
            have h8' : sz v x = sz u x := by unfold sz; rw [(vt 0 (by decide)).2, (vt 3 (by decide)).2]
            omega
          split at h4 <;> omega
      · have := h9.1 hc
        omega
    have wyes : AllT u (Arg1 u x2) o → x2 ≠ 2 → (0 ≤ u.2.1 0 x ∧ u.2.1 0 x = x2) → sumW (wF u x2) w (w.1 76).toNat + sz u x = sumW (wF u x2) v (v.1 76).toNat := fun hA hf2 hcf => by
      have hc : 0 ≤ u.2.1 0 x ∧ u.2.1 0 x ≠ 2 := ⟨hcf.1, by omega⟩
      obtain ⟨n, c1, c2⟩ := (a9 (wF u x2)).2 hc
      have hX := ((p11 hA hf2).2 x a7).step.1
      have h0 := preW_0 (ω := wF u x2) n (fun i hi => wF_0 (hX hcf n i c1 hi))
      have h1 : wF u x2 x = sz u x := wF_1 (fun z => z.step.1 hcf)
      omega
    refine s_isCallOf ar.1 (by omega) fun r _ hr => ?_
    rw [e0] at hr
    refine br_i (fun hz => rd_i fun _ => bd_i (by omega) (by omega) (sw_i (rd_i fun _ => ov_i (show -2147483648 ≤ w.1 131 + 1 by omega) (show w.1 131 + 1 < 2147483648 by omega) (sw_i ?_)))) (fun hz => ?_)
    · show R x2 (iI (iA w 130 (w.1 131) x) 131 (w.1 131 + 1))
      have hF2 : Fx fFd w (iI (iA w 130 (w.1 131) x) 131 (w.1 131 + 1)) := (Fx_A (k := 130) rfl).tr (Fx_I (k := 131) rfl)
      have hc := hcase (iI (iA w 130 (w.1 131) x) 131 (w.1 131 + 1)) rfl rfl (fun y ⟨j, j0, j1, j2⟩ => ⟨j, j0, show j < w.1 131 + 1 by omega, by
        have ej : (iI (iA w 130 (w.1 131) x) 131 (w.1 131 + 1)).2.1 130 j = if j = w.1 131 then x else w.2.1 130 j := iA_same
        rw [ej, if_neg (by omega), e130]; exact j2⟩) (fun _ => ⟨w.1 131, by omega, show w.1 131 < w.1 131 + 1 by omega, if_pos rfl⟩)
      refine ih (N - 1) _ _ (by omega) ⟨rfl, a2.tr hF2, a3, fun y => V y ∨ y = x, ⟨a4.1, fun j j0 j1 => (a4.2.1 j j0 j1).eq (fun k hk => hF2 k (fFd_t k hk)), ?_⟩, ?_, fun a ha => onP a ha, ⟨show 0 ≤ w.1 131 + 1 by omega, fun j j0 j1 => ?_⟩, hc.1, hc.2, fun hA hf2 => ⟨?_, fun a ha => onA hA hf2 a ha⟩⟩
      · rw [eN]
        show sumK (iI (iA w 130 (w.1 131) x) 131 (w.1 131 + 1)) (w.1 76).toNat = _
        rw [sumK_congr (u := w) (v := iI (iA w 130 (w.1 131) x) 131 (w.1 131 + 1)) rfl rfl _ (fun _ _ _ => rfl)]
        exact a4.2.2
      · show w.1 131 + 1 + ((N - 1 : Nat) : Int) ≤ sz u o
        omega
      · have j1 : j < w.1 131 + 1 := j1
        have ej : (iI (iA w 130 (w.1 131) x) 131 (w.1 131 + 1)).2.1 130 j = if j = w.1 131 then x else w.2.1 130 j := iA_same
        rw [ej]
        split
        · exact ⟨Px, a1, hr.mp hz⟩
        · rw [e130]; exact p7 j j0 (by omega)
      · have h1 := (p11 hA hf2).1
        have h2 := wyes hA hf2 (hr.mp hz)
        have e : ∀ j, (iI (iA w 130 (w.1 131) x) 131 (w.1 131 + 1)).2.1 130 j = if j = w.1 131 then x else w.2.1 130 j := fun j => iA_same
        show sumF u _ (w.1 131 + 1).toNat + sumW (wF u x2) (iI (iA w 130 (w.1 131) x) 131 (w.1 131 + 1)) (w.1 76).toNat ≤ _
        rw [show (w.1 131 + 1).toNat = (w.1 131).toNat + 1 from by omega, sumW_congr (u := w) (v := iI (iA w 130 (w.1 131) x) 131 (w.1 131 + 1)) _ (fun _ _ _ => rfl)]
        show sumF u ((iI (iA w 130 (w.1 131) x) 131 (w.1 131 + 1)).2.1 130) (w.1 131).toNat + sz u ((iI (iA w 130 (w.1 131) x) 131 (w.1 131 + 1)).2.1 130 ((w.1 131).toNat : Int)) + _ ≤ _
        rw [sumF_congr (r := v.2.1 130) _ (fun j hj => by rw [e, if_neg (by omega), e130]), e, if_pos (by omega), e131]
        omega
    · have hc := hcase w rfl rfl (fun y ⟨j, j0, j1, j2⟩ => ⟨j, j0, by omega, by rw [e130]; exact j2⟩) (fun q => absurd (hr.mpr q) hz)
      refine ih (N - 1) _ _ (by omega) ⟨rfl, a2, a3, fun y => V y ∨ y = x, by rw [eN]; exact a4, by omega, onP, ⟨by omega, fun j j0 j1 => by rw [e130]; exact p7 j j0 (by omega)⟩, hc.1, hc.2, fun hA hf2 => ⟨?_, onA hA hf2⟩⟩
      have h1 := (p11 hA hf2).1
      have h2 := wno hA hf2 (fun z => hz (hr.mpr z))
      rw [e130, e131]
      omega
  · rw [show (((sz u o).toNat : Nat) : Int) = sz u o from by omega]
    exact st.1
  · show (0 : Int) + ((sz u o).toNat : Int) ≤ sz u o
    omega
  · have j1 : j < 1 := j1
    have : j = 0 := by omega
    subst this
    rw [← j2]
    exact hPo
  · show (0 : Int) + sumW (wF u f) _ 1 ≤ sz u o
    have := (wF_r (f := f) hT ho).2
    show (0 : Int) + (0 + wF u f o) ≤ sz u o
    omega
  · have j1 : j < 1 := j1
    have : j = 0 := by omega
    subst this
    rw [← j2]
    exact hA
theorem s_isNewName {x : Int} {Q : Int → iST → Prop} {u : iST} (x0 : 0 ≤ x) (x1 : x < 452000) (hq : ∀ b, bz b → (b ≠ 0 → u.2.1 0 x = -2 ∧ 16 < x) → Q b u) : w_isNewName x Q u := by
  unfold w_isNewName
  refine s_isSymbol x0 x1 fun r _ hr => br_i (fun _ => zt_0 (hq 0 (Or.inl rfl) (fun z => absurd rfl z))) fun hz => ?_
  unfold w_isReserved
  refine br_i (fun h => absurd h (by omega)) fun _ => br_i (fun h => zt_0 (br_n (by decide) (zt_1 (hq 1 (Or.inr rfl) (fun _ => ⟨?_, h⟩))))) fun _ => zt_1 (br_y (by decide) (zt_0 (hq 0 (Or.inl rfl) (fun z => absurd rfl z))))
  have : ¬ (u.2.1 0 x ≠ -2) := fun z => hz (hr.mpr z)
  omega
theorem TJ.hered {u : iST} (hT : TI u) : Hered u (TJ u) := fun x hx hc n hl i hi => by
  obtain ⟨m, a, b, c, d⟩ := hx.args hT hc
  have := IsL_uniq hT c hl
  subst this
  exact d.el i hi
