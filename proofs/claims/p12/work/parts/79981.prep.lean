-- deps: 7998
/-! the class: the work of a command, by its head -/
theorem rn_prep [DecidableEq Ob] {a c : Int} {P : iST → Prop} {y : iST} {H : Sp.Hs} {m : List Ob} {o : Ob} (hy : HC y H m) (va : VN y a) (h44 : y.1 44 = -1 ∨ VN y (y.1 44)) (c1 : 17 ≤ c) (c2 : c ≤ 22) (hc : Ob.knownC[c.toNat]? = some o) (ho : Ob.lft (oc y a) = o)
    (hq : ∀ z, HC z H m → (∀ k, k ≠ 25 → k ≠ 26 → z.1 k = y.1 k) → z.1 25 = y.1 1 → z.2 = y.2 → z.1 26 = 0 →
      (c = 17 → pv_2_evaluated (y.1 45) 1000000 (fun v6 u => pv_11_showValue v6 (fun u => P u) u) z) ∧
      (c = 18 → pv_6_rewritten (y.1 45) 0 0 (fun v10 u => pv_11_showTerm v10 (fun u => P u) u) z) ∧
      (c = 19 ∨ c = 21 → pv_8_mute (y.1 47) (fun u => rd (u.1 45) (fun v15 => rd (u.1 47) (fun v16 => pv_8_addTheoremClauses v15 v16 (fun u => P u) u))) z) ∧
      (c = 20 → br (y.1 46 = (-1)) (P z) (pv_7_item a 2 (fun v21 u => rd (u.1 45) (fun v22 => rd (u.1 46) (fun v23 => pv_8_addMeasureClauses (y.1 44) v21 v22 v23 (fun u => P u) u))) z)) ∧
      (c = 22 → P z)) : pv_11_prepare a P y := by
  unfold pv_11_prepare
  intro v1 e1 _
  rw [e1]
  rcases h44 with e | e
  · rw [e]
    refine pc_theoremOf0 hy.2.2.1 ?_
    refine rn_6 hy (fun z hz zn z25 z2 z26 => ?_)
    have z29 : z.1 29 = y.1 29 := zn 29 (by decide) (by decide)
    have vz : VN z a := ⟨va.1, by rw [z29]; exact va.2⟩
    have oz : oc z a = oc y a := oc_same (by rw [z2]) a
    obtain ⟨q17, q18, q19, q20, q22⟩ := hq z hz zn z25 z2 z26
    have n45 : z.1 45 = y.1 45 := zn 45 (by decide) (by decide)
    have n47 : z.1 47 = y.1 47 := zn 47 (by decide) (by decide)
    have n46 : z.1 46 = y.1 46 := zn 46 (by decide) (by decide)
    have n44 : z.1 44 = y.1 44 := zn 44 (by decide) (by decide)
    refine pc_left hz.1 vz (fun f vf ef => ?_)
    have kc := katC hz.1 c (by omega) (by omega) hc vf.1 vf.2
    rw [ef, oz] at kc
    have fc : f = c := kc.mpr ho
    rw [fc]
    refine ⟨fun q => ?_, fun _ => ⟨fun q => ?_, fun _ => ⟨fun q => ?_, fun _ => ⟨fun q => ?_, fun _ => ⟨fun q => ?_, fun _ => ⟨fun q => q22 q, fun q => by omega⟩⟩⟩⟩⟩⟩
    · intro v5 e5 _
      rw [e5, n45]
      exact q17 q
    · intro v5 e5 _
      rw [e5, n45]
      exact q18 q
    · intro v5 e5 _
      rw [e5, n47]
      exact q19 (Or.inl q)
    · intro v19 e19 _
      rw [e19, n46]
      refine ⟨fun w => (q20 q).1 w, fun w => ?_⟩
      intro v20 e20 _
      rw [e20, n44]
      exact (q20 q).2 w
    · intro v5 e5 _
      rw [e5, n47]
      exact q19 (Or.inr q)
  · refine pc_theoremOf hy.1 hy.2.2.1 e (fun _ => ?_) (fun r k _ _ _ _ => ?_)
    all_goals
      refine rn_6 hy (fun z hz zn z25 z2 z26 => ?_)
      have z29 : z.1 29 = y.1 29 := zn 29 (by decide) (by decide)
      have vz : VN z a := ⟨va.1, by rw [z29]; exact va.2⟩
      have oz : oc z a = oc y a := oc_same (by rw [z2]) a
      obtain ⟨q17, q18, q19, q20, q22⟩ := hq z hz zn z25 z2 z26
      have n45 : z.1 45 = y.1 45 := zn 45 (by decide) (by decide)
      have n47 : z.1 47 = y.1 47 := zn 47 (by decide) (by decide)
      have n46 : z.1 46 = y.1 46 := zn 46 (by decide) (by decide)
      have n44 : z.1 44 = y.1 44 := zn 44 (by decide) (by decide)
      refine pc_left hz.1 vz (fun f vf ef => ?_)
      have kc := katC hz.1 c (by omega) (by omega) hc vf.1 vf.2
      rw [ef, oz] at kc
      have fc : f = c := kc.mpr ho
      rw [fc]
      refine ⟨fun q => ?_, fun _ => ⟨fun q => ?_, fun _ => ⟨fun q => ?_, fun _ => ⟨fun q => ?_, fun _ => ⟨fun q => ?_, fun _ => ⟨fun q => q22 q, fun q => by omega⟩⟩⟩⟩⟩⟩
      · intro v5 e5 _
        rw [e5, n45]
        exact q17 q
      · intro v5 e5 _
        rw [e5, n45]
        exact q18 q
      · intro v5 e5 _
        rw [e5, n47]
        exact q19 (Or.inl q)
      · intro v19 e19 _
        rw [e19, n46]
        refine ⟨fun w => (q20 q).1 w, fun w => ?_⟩
        intro v20 e20 _
        rw [e20, n44]
        exact (q20 q).2 w
      · intro v5 e5 _
        rw [e5, n47]
        exact q19 (Or.inr q)
