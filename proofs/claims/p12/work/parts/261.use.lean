/-! useRows -/
theorem sumU_le {v : iST} (hT : TI v) : ∀ {n m : Nat}, n ≤ m → (∀ j : Nat, j < m → 0 ≤ v.2.1 138 j ∧ v.2.1 138 j < v.1 8) → 0 ≤ sumU v n ∧ sumU v n ≤ sumU v m := by
  intro n m
  induction m with
  | zero => intro h _; have : n = 0 := by omega
            subst this; exact ⟨Int.le_refl _, Int.le_refl _⟩
  | succ m ih =>
    intro h hj
    have hr := hj m (by omega)
    have hw := (w_pos hT hr.1 hr.2).2.1
    have e : sumU v (m + 1) = sumU v m + wB v (v.2.1 138 (m : Int)) := rfl
    by_cases en : n = m + 1
    · subst en
      have : ∀ k, k ≤ m → 0 ≤ sumU v k := by
        intro k hk
        induction k with
        | zero => exact Int.le_refl _
        | succ k ihk =>
          have hrk := hj k (by omega)
          have hwk := (w_pos hT hrk.1 hrk.2).2.1
          have := ihk (by omega)
          show 0 ≤ sumU v k + wB v (v.2.1 138 (k : Int))
          omega
      have := this m (by omega)
      omega
    · have h1 := ih (by omega) (fun j hj' => hj j (by omega))
      omega
theorem wB_dle {u : iST} (hT : TI u) {l : Int} {n : Nat} (h : IsL u l n) : ∀ i, i ≤ n → wB u (dr u l i) ≤ wB u l := by
  intro i
  induction i with
  | zero => intro _; exact Int.le_refl _
  | succ i ih =>
    intro hi
    have h1 := ih (by omega)
    have h2 := wB_dr hT h (i := i) (by omega)
    have r := IsL.elr hT h i (by omega)
    have h3 := w_pos hT r.1 r.2
    omega
theorem g_useRows {u : iST} {b E W : Int} {Q : iST → Prop} (hL : Ly u u 0 0) (hd : DR u) (h122 : u.1 122 = 0) (hN : DNi b u E) (hC : Core u) (hU : 0 ≤ u.1 139) (hU2 : ∀ j, 0 ≤ j → j < u.1 139 → UseOk u j) (hS : 4 * u.1 139 + sumU u (u.1 139).toNat ≤ W) (hW1 : W ≤ 1000) (h8 : u.1 8 + 62000 ≤ 451000) (hq : ∀ w, IR u b E w 61250 W 250 → ExtT u w → Q w) : w_useRows Q u := by
  have hW := hL.1
  have hT := hW.1.1
  have hm := hT.2.1
  have ur : ∀ j : Nat, j < (u.1 139).toNat → 0 ≤ u.2.1 138 j ∧ u.2.1 138 j < u.1 8 := fun j hj => (hU2 j (by omega) (by omega)).r hT
  have S0 : ∀ k : Nat, (k : Int) ≤ u.1 139 → 0 ≤ sumU u k ∧ sumU u k ≤ sumU u (u.1 139).toNat := fun k hk => sumU_le hT (by omega) ur
  have Sn := S0 (u.1 139).toNat (by omega)
  unfold w_useRows w_useRows_2
  refine lf1 (B := fun R x1 u => w_useRows_2b R Q x1 u) (fun c1 a => ∃ k : Nat, c1 = k ∧ (k : Int) ≤ u.1 139 ∧ IR u b E a (sumU u k + 241 * k) (sumU u k + k) k) (fun c1 _ => (u.1 139 - c1).toNat) ?_ ⟨0, rfl, hU, ⟨hL.mono (by show (0 : Int) ≤ 0 + 241 * ((0 : Nat) : Int); omega) (Int.le_refl _), hd, by omega, hN.mono (by show E ≤ E + (0 + ((0 : Nat) : Int)); omega), rfl, rfl, rfl, rfl, rfl, rfl⟩⟩
  intro c1 a hI R ih
  obtain ⟨k, rfl, q1, q2⟩ := hI
  have Sk := S0 k q1
  have aT := q2.1.1.1.1
  have aF := q2.1.2.1.2.2.1
  have aE := q2.1.2.1.2.1
  have a139 : a.1 139 = u.1 139 := fx_s aF 139 rfl
  have done : Q a := hq a (q2.mono (by omega) (by omega) (by omega)) aE
  unfold w_useRows_2b
  refine rd_i fun _ => br_i (fun _ => done) fun hlt => rd_i fun _ => br_i (fun _ => done) fun _ => sw_i (bd_i (by omega) (by omega) (rd_i fun _ => ?_))
  have hk : (k : Int) < u.1 139 := by omega
  obtain ⟨zI, zE⟩ := q2.fz hT (Fx_I (k := 74) rfl : Fx fZ2 a (iI a 74 0)) rfl
  have z74 : (iI a 74 0).1 74 = 0 := rfl
  have e138 : (iI a 74 0).2.1 138 (k : Int) = u.2.1 138 k := by show a.2.1 138 (k : Int) = _; rw [fx_a aF 138 rfl]
  rw [e138]
  obtain ⟨u0, u1, n, hpk⟩ := hU2 k (by omega) hk
  have hwords := (hpk.words hT).1
  have Sk1 := S0 (k + 1) (by omega)
  have eSk : sumU u (k + 1) = sumU u k + wB u (u.2.1 138 (k : Int)) := rfl
  have hlL := hpk.1
  have drp : ∀ i, i ≤ n → 0 ≤ wB u (dr u (u.2.1 138 (k : Int)) i) := fun i hi => wB_drp hT hlL hi
  have u60 : u.2.1 137 (k : Int) < 60 := by have := hC.2.1.2; omega
  clear e138
  generalize iI a 74 0 = z0 at *
  unfold w_useRows_29
  refine lf2 (B := fun R29 x1 x2 u => w_useRows_29b R R29 Q x1 x2 u) (fun y1 y2 z => (k : Int) = y1 ∧ ∃ i : Nat, y2 = dr u (u.2.1 138 (k : Int)) i ∧ i ≤ n ∧ IR u b E z (sumU u k + 241 * k + (wB u (u.2.1 138 (k : Int)) - wB u (dr u (u.2.1 138 (k : Int)) i))) (sumU u k + k + (wB u (u.2.1 138 (k : Int)) - wB u (dr u (u.2.1 138 (k : Int)) i))) k ∧ z.1 74 = i ∧ ∀ j, 0 ≤ j → j < (i : Int) → IsT z (z.2.1 73 j)) (fun _ y2 _ => y2.toNat) ?_ ⟨rfl, 0, rfl, by omega, zI.mono (by show _ ≤ _ + (wB u (u.2.1 138 (k : Int)) - wB u (u.2.1 138 (k : Int))); omega) (by show _ ≤ _ + (wB u (u.2.1 138 (k : Int)) - wB u (u.2.1 138 (k : Int))); omega) (Int.le_refl _), z74, fun j j0 j1 => by omega⟩
  intro y1 y2 z hI2 R29 ih2
  obtain ⟨r1, i, rfl, r2, r3, r4, r5⟩ := hI2
  subst r1
  have zT := r3.1.1.1.1
  have zm := zT.2.1
  have zE' := r3.1.2.1.2.1
  have zF := r3.1.2.1.2.2.1
  have zG := r3.1.1.1
  have z8 : z.1 8 ≤ u.1 8 + (sumU u k + 241 * k + (wB u (u.2.1 138 (k : Int)) - wB u (dr u (u.2.1 138 (k : Int)) i))) := by
    have := r3.1.2.1.2.2.2.2.2.2.2.1
    have := r3.2.2.2.2.2.2.2.2.1
    omega
  have z8b := zE'.1.1.1
  have z122 := r3.2.2.1
  have dri := drp i r2
  have drl := wB_dle hT hlL i r2
  have drr := dr_r hT hlL r2
  unfold w_useRows_29b
  refine br_i (fun hz => bd_i (by omega) (by omega) (rd_i fun _ => ?_)) fun hnz => ?_
  · rw [show z.2.1 137 (k : Int) = u.2.1 137 (k : Int) from by rw [fx_a zF 137 rfl]]
    refine bd_i u0 u60 (rd_i fun _ => ?_)
    have hth : TJ z (z.2.1 44 (u.2.1 137 (k : Int))) := by
      rw [fx_a zF 44 rfl]
      exact ((hC.2.2.2.2 _ u0 u1).2.1).ext hT zE'
    refine g_putNot zG hth ⟨by omega, by omega, fun j j0 j1 => r5 j j0 (by omega)⟩ r3.2.1 (by omega) (by omega) r3.2.2.2.1 fun w' y' h1 h2 h3 h4 h5 h6 => ov_i (by omega) (by omega) ?_
    obtain ⟨yI, yE⟩ := r3.pn hT h1 h2 h3 h4 h5 h6
    exact ih _ _ ⟨k + 1, by omega, by omega, yI.mono (by omega) (by omega) (by omega)⟩ (by omega)
  · have hi : i < n := by
      have : i ≠ n := fun e => hnz ((dr_nz hT hlL r2).mpr e)
      omega
    have hcell := dr_isL hlL r2
    rw [show n - i = (n - i - 1) + 1 from by omega] at hcell
    obtain ⟨f0, f1, f2, f3⟩ := hcell
    have fp := hT.pair f0 f1 f2
    have exf := zE'.1.2.1 _ f0 f1
    have hpi := hpk.2.1 i hi
    have hpr := hpi.r hT
    have wd := wB_dr hT hlL hi
    have wdn := drp (i + 1) (by omega)
    refine rd_i fun _ => bd_i f0 (by omega) (rd_i fun _ => ?_)
    rw [exf.1, ← dr_el]
    refine bd_i hpr.1 (by omega) (rd_i fun _ => bd_i (by omega) (by omega) (sw_i (rd_i fun _ => bd_i f0 (by omega) (rd_i fun _ => ?_))))
    generalize hx72 : z.2.1 0 (el u (u.2.1 138 (k : Int)) i) = x72
    show w_nth (z.2.1 0 (dr u (u.2.1 138 (k : Int)) i)) 1 _ (iA z 72 (z.1 74) x72)
    rw [exf.1, ← dr_el]
    obtain ⟨z1I, z1E⟩ := r3.fz hT (Fx_A (k := 72) rfl : Fx fZ2 z (iA z 72 (z.1 74) x72)) rfl
    have z1T := z1I.1.1.1.1
    have z1uE := zE'.tr hT z1E
    have z1_74 : (iA z 72 (z.1 74) x72).1 74 = i := r4
    have z1_73 : ∀ j, 0 ≤ j → j < (i : Int) → IsT (iA z 72 (z.1 74) x72) ((iA z 72 (z.1 74) x72).2.1 73 j) := fun j j0 j1 => by
      rw [iA_other (by decide)]
      exact (r5 j j0 j1).ext zT z1E
    have z1_8 : (iA z 72 (z.1 74) x72).1 8 = z.1 8 := rfl
    have z1G := z1I.1.1.1
    generalize iA z 72 (z.1 74) x72 = z1 at *
    have hlp := hpi.1
    refine s_nth z1T hpr.1 (by omega) (by decide) (by decide) ?_
    rw [show (1 : Int).toNat = 1 from rfl, el_ext z1uE.1 hlp 1 (by omega)]
    have e1r : 0 ≤ el u (el u (u.2.1 138 (k : Int)) i) 1 ∧ el u (el u (u.2.1 138 (k : Int)) i) 1 < u.1 8 := ⟨hpr.2.2.2.2.1, hpr.2.2.2.2.2⟩
    have w1 : wB u (el u (u.2.1 138 (k : Int)) i) = wA u (u.2.1 0 (el u (u.2.1 138 (k : Int)) i)) + wB u (u.2.1 1 (el u (u.2.1 138 (k : Int)) i)) := wB_pair hT hlp.1 hlp.2.1 hlp.2.2.1
    have w2 : wB u (dr u (el u (u.2.1 138 (k : Int)) i) 1) = wA u (el u (el u (u.2.1 138 (k : Int)) i) 1) + wB u (dr u (el u (u.2.1 138 (k : Int)) i) 2) := wB_dr hT (i := 1) hlp (by omega)
    have w2 : wB u (u.2.1 1 (el u (u.2.1 138 (k : Int)) i)) = wA u (el u (el u (u.2.1 138 (k : Int)) i) 1) + wB u (dr u (el u (u.2.1 138 (k : Int)) i) 2) := w2
    have w3 := wB_drp hT (i := 2) hlp (by omega)
    have w4 := w_pos hT hpr.2.2.1 hpr.2.2.2.1
    have w5 := w_pos hT e1r.1 e1r.2
    have w6 := (w_pos hT hpr.1 hpr.2.1).2.2
    have wv : wA z1 (el u (el u (u.2.1 138 (k : Int)) i) 1) = wA u (el u (el u (u.2.1 138 (k : Int)) i) 1) := (w_ext hT z1T z1uE.1 e1r.1 e1r.2).1
    have tgood := hpi.2.2
    have tv : tS z1 (el u (el u (u.2.1 138 (k : Int)) i) 1) = tS u (el u (el u (u.2.1 138 (k : Int)) i) 1) := (t_good hT z1T z1uE e1r.1 e1r.2).1 (by omega)
    refine g_termT z1G e1r.1 (by omega) (by rw [wv]; omega) (by rw [wv]; omega) fun t w hw2 h61 ht => ?_
    rw [wv] at hw2
    rw [tv] at ht
    have htt : IsT w t := by
      rcases ht with ⟨_, q⟩ | ⟨q, _⟩
      · omega
      · exact q
    have wI := z1I.gp hT hw2
    have wT := hw2.1
    have wF := hw2.2.2.1
    have w74 : w.1 74 = (i : Int) := by rw [fx_s wF 74 rfl]; exact z1_74
    rw [z1_74]
    refine bd_i (by omega) (by omega) (sw_i (rd_i fun _ => ?_))
    show ov (w.1 74 + 1) (sw (iI (iA w 73 (i : Int) t) 74 (w.1 74 + 1)) _)
    rw [w74]
    refine ov_i (by omega) (by omega) (sw_i ?_)
    have vF : Fx fZ2 w (iI (iA w 73 (i : Int) t) 74 ((i : Int) + 1)) := (Fx_A (k := 73) rfl).tr (Fx_I (k := 74) rfl)
    obtain ⟨vI, vE⟩ := wI.fz hT vF rfl
    have v73 : ∀ j, (iI (iA w 73 (i : Int) t) 74 ((i : Int) + 1)).2.1 73 j = if j = (i : Int) then t else w.2.1 73 j := fun j => iA_same
    have v74 : (iI (iA w 73 (i : Int) t) 74 ((i : Int) + 1)).1 74 = ((i + 1 : Nat) : Int) := by show (i : Int) + 1 = _; omega
    have vuE := (z1uE.tr hT hw2.2.1).tr hT vE
    have v8 := vuE.1.1.1
    have vm := vI.1.1.1.1.2.1
    generalize iI (iA w 73 (i : Int) t) 74 ((i : Int) + 1) = v at *
    refine bd_i f0 (by omega) (rd_i fun _ => ?_)
    rw [(vuE.1.2.1 _ f0 f1).2.1, ← dr_next]
    refine ih2 _ _ _ ⟨rfl, i + 1, rfl, by omega, vI.mono (by omega) (by omega) (Int.le_refl _), v74, fun j j0 j1 => ?_⟩ (by rw [dr_next]; omega)
    rw [v73]
    split
    · exact htt.ext wT vE
    · have hj := z1_73 j j0 (by omega)
      rw [fx_a wF 73 rfl]
      exact (hj.ext z1T hw2.2.1).ext wT vE
