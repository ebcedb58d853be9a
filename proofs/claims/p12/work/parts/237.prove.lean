/-! prove -/
theorem g_prove {u : iST} {Q : Int → iST → Prop} (hP : PI u u 0 0) (hB : BudP u) (hcap : u.1 117 + 2 * (u.1 59 - u.1 60) ≤ 2300) (hq : ∀ b v, bz b → PI u v 700 40 → LR v → (v.1 61 = 0 → PI u v 0 0 ∧ v.1 117 ≤ 2300) → v.1 109 = 0 → Q b v) : w_prove Q u := by
  have hu := hP.1.1.1
  have h60 := hP.1.2.2.2.2.2.2.1
  have h117 := hP.2.2.2
  have k155 : ∀ (v : iST) (b : Int), bz b → PI u v 700 40 → LR v → (v.1 61 = 0 → PI u v 0 0 ∧ v.1 117 ≤ 2300) → v.1 109 = 0 → w_prove_155 Q b v := by
    intro v b hb hv hL h0 h109
    have hF : Fx fQ v (iI v 62 b) := Fx_I (k := 62) rfl
    unfold w_prove_155
    refine (show zt b _ from ⟨hb, sw_i (rz_i fun hz => (show zt _ _ from ⟨hz, ?_⟩))⟩)
    exact hq b (iI v 62 b) hb (hv.same hu hF rfl rfl rfl rfl rfl) (hL.mono rfl rfl (Int.le_refl _)) (fun q => ⟨(h0 q).1.same hu hF rfl rfl rfl rfl rfl, (h0 q).2⟩) h109
  have k130 : ∀ (v : iST), PI u v 700 40 → LR v → (v.1 61 = 0 → PI u v 0 0 ∧ v.1 117 ≤ 2300) → w_prove_130 Q v := by
    intro v hv hL h0
    have hF : Fx fQ v (iI v 109 0) := Fx_I (k := 109) rfl
    have a1 := hv.same hu hF rfl rfl rfl rfl rfl
    have a2 : LR (iI v 109 0) := hL.mono rfl rfl (Int.le_refl _)
    have a3 : (iI v 109 0).1 61 = 0 → PI u (iI v 109 0) 0 0 ∧ (iI v 109 0).1 117 ≤ 2300 := fun q => ⟨(h0 q).1.same hu hF rfl rfl rfl rfl rfl, (h0 q).2⟩
    have k154 : w_prove_154 Q (iI v 109 0) := by
      unfold w_prove_154
      exact k155 _ 0 (Or.inl rfl) a1 a2 a3 rfl
    unfold w_prove_130
    exact sw_i (rd_i fun _ => br_i (fun _ => k154) fun _ => rd_i fun _ => br_i (fun _ => k154) fun _ => k155 _ 1 (Or.inr rfl) a1 a2 a3 rfl)
  have k47 : ∀ (N : Nat) (v : iST), PE u N v → w_prove_47 Q v := by
    intro N v hv
    unfold w_prove_47
    refine lr0 (B := fun R u => w_prove_47b R Q u) (fun N v => PE u N v) ?_ (n := N) hv
    intro N v hI R ih
    obtain ⟨e1, e2, e3⟩ := hI
    have q130 := k130 v e1 e2 (fun q => ⟨(e3 q).1, by have h1 := (e3 q).2.2.1; have h2 := e1.1.2.2.2.2.2.2.1; omega⟩)
    unfold w_prove_47b
    refine rd_i fun _ => br_i (fun _ => q130) fun h61 => rd_i fun _ => br_i (fun _ => q130) fun h119 => rd_i fun _ => br_i (fun _ => q130) fun h63 => rd_i fun _ => ?_
    have h61 : v.1 61 = 0 := by omega
    obtain ⟨f1, f2, f3, f4⟩ := e3 h61
    have fW := f1.1
    have v60 := fW.2.2.2.2.2.2.1
    have o1 := f2.2.1
    have hr := f2.2.2 (v.1 119 - 1) (by omega) (by omega)
    refine ov_i (by omega) (by omega) (bd_i (by omega) (by omega) (rd_i fun _ => ?_))
    generalize v.2.1 118 (v.1 119 - 1) = r at *
    have hc := f1.2.2.1 r hr.1 hr.2
    refine s_isProved fW.1.1 hc hr.1 (by omega) fun b _ => br_i (fun _ => bd_i hr.1 (by omega) (rd_i fun _ => br_i (fun h6 => ?_) (fun _ => ?_))) fun _ => rd_i fun _ => ov_i (by omega) (by omega) (sw_i ?_)
    · have c5 := hc.2.2.2.2
      exact g_round hu hB ⟨f1, h61, f2, e2, by omega, f3, by omega, hr.1, hr.2, by omega, Int.le_refl _, rfl, rfl⟩ (by omega) fun M z hz hM => ih M z hM hz
    · exact g_leave (w := v) hu f1 h61 f2 e2 (by omega) f3 (by omega) hr.1 hr.2 (by omega) fun M z hz hM => ih M z hM hz
    · have zF : Fx fQ v (iI v 119 (v.1 119 - 1)) := Fx_I (k := 119) rfl
      have hPz := f1.same hu zF rfl rfl rfl rfl rfl
      refine ih (3 * (v.1 59 - v.1 60) + v.1 119 - 1).toNat _ (by omega) ⟨hPz.mono (by decide) (by decide), e2.mono rfl rfl (Int.le_refl _), fun _ => ⟨hPz, ⟨show 0 ≤ v.1 119 - 1 by omega, show v.1 119 - 1 ≤ v.1 117 by omega, fun i i0 i1 => f2.2.2 i i0 (by have i1 : i < v.1 119 - 1 := i1; omega)⟩, f3, show ((3 * (v.1 59 - v.1 60) + v.1 119 - 1).toNat : Int) = 3 * (v.1 59 - v.1 60) + (v.1 119 - 1) by omega⟩⟩
  unfold w_prove
  refine sw_i (rd_i fun _ => ov_i (show -2147483648 ≤ u.1 117 - 1 by omega) (show u.1 117 - 1 < 2147483648 by omega) ?_)
  show w_prove_12 Q (u.1 117 - 1) (iI u 119 0)
  unfold w_prove_12
  refine lf1 (B := fun R x1 u => w_prove_12b R Q x1 u) (fun x1 v => -1 ≤ x1 ∧ v.1 119 + x1 + 1 = u.1 117 ∧ 0 ≤ v.1 119 ∧ (∀ g, g ≠ 119 → v.1 g = u.1 g) ∧ (∀ g, g ≠ 118 → v.2.1 g = u.2.1 g) ∧ v.2.2 = u.2.2 ∧ ∀ i, 0 ≤ i → i < v.1 119 → 0 ≤ v.2.1 118 i ∧ v.2.1 118 i < u.1 117) (fun x1 _ => (x1 + 1).toNat) ?_ ⟨by omega, show 0 + (u.1 117 - 1) + 1 = u.1 117 by omega, Int.le_refl _, fun g hg => if_neg hg, fun _ _ => rfl, rfl, fun i i0 i1 => by have i1 : i < 0 := i1; omega⟩
  intro x1 v hI R ih
  obtain ⟨p1, p2, p3, p4, p5, p6, p7⟩ := hI
  unfold w_prove_12b
  refine br_i (fun hneg => sw_i ?_) (fun hpos => rd_i fun _ => bd_i p3 (by omega) (sw_i (rd_i fun _ => ov_i (show -2147483648 ≤ v.1 119 + 1 by omega) (show v.1 119 + 1 < 2147483648 by omega) (sw_i (ov_i (by omega) (by omega) (ih _ _ ⟨by omega, ?_, ?_, fun g hg => (if_neg hg).trans (p4 g hg), fun g hg => (iA_other hg).trans (p5 g hg), p6, fun i i0 i1 => ?_⟩ (by omega)))))))
  · have hF : Fx fQ u (iI v 63 0) := fun g hg => by
      have : g ≠ 63 ∧ g ≠ 118 ∧ g ≠ 119 := by simp [fQ] at hg; omega
      exact ⟨(if_neg this.1).trans (p4 g this.2.2), p5 g this.2.1⟩
    have z117 : (iI v 63 0).1 117 = u.1 117 := p4 117 (by decide)
    have hPz : PI u (iI v 63 0) 0 0 := hP.same hu hF p6 (p5 114 (by decide)) (p5 115 (by decide)) (p5 116 (by decide)) z117
    have z59 : (iI v 63 0).1 59 = u.1 59 := p4 59 (by decide)
    have z60 : (iI v 63 0).1 60 = u.1 60 := p4 60 (by decide)
    have z119 : (iI v 63 0).1 119 = v.1 119 := rfl
    refine k47 (3 * (u.1 59 - u.1 60) + v.1 119).toNat _ ⟨hPz.mono (by decide) (by decide), ⟨Int.le_refl _, (by decide : (0 : Int) ≤ 20), fun i i0 i1 => by have i1 : i < 0 := i1; omega⟩, fun _ => ⟨hPz, ⟨p3, by rw [z119, z117]; omega, fun i i0 i1 => by rw [z117]; exact p7 i i0 i1⟩, by rw [z117, z59, z60]; exact hcap, by rw [z59, z60, z119]; omega⟩⟩
  · show v.1 119 + 1 + (x1 + -1) + 1 = u.1 117
    omega
  · show 0 ≤ v.1 119 + 1
    omega
  · have i1 : i < v.1 119 + 1 := i1
    have e : (iI (iA v 118 (v.1 119) x1) 119 (v.1 119 + 1)).2.1 118 i = if i = v.1 119 then x1 else v.2.1 118 i := iA_same
    show 0 ≤ (iI (iA v 118 (v.1 119) x1) 119 (v.1 119 + 1)).2.1 118 i ∧ (iI (iA v 118 (v.1 119) x1) 119 (v.1 119 + 1)).2.1 118 i < u.1 117
    rw [e]
    by_cases ei : i = v.1 119
    · rw [if_pos ei]; omega
    · rw [if_neg ei]; exact p7 i i0 (by omega)
