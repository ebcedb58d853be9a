-- deps: 547
/-! the reference: the sixteen conclusions together -/
theorem cc_184 [DecidableEq Ob] {p c a b d : Int} {Q : Int → iST → Prop} {u v : iST} {H : Sp.Hs} {R : EStateM.Result Unit Sp.Wk (List Ob)} {cs : List (List Ob)} (hP : PdC u v (H.env []) R (Sp.concl (H.env []) (ob v p) cs)) (hd : dfl v = []) (h71 : 0 ≤ u.1 71) (h61 : v.1 61 = 0) (hX : HX v H []) (p0 : 0 ≤ p) (p1 : p < v.1 8) (hpr : (ob v p).isPr = true) (hf : Sp.isForm (H.env []) (ob v p) = true)
    (tA : ¬ (v.2.1 0 p = 37 ∨ v.2.1 0 p = 38 ∨ v.2.1 0 p = 39 ∨ v.2.1 0 p = 41 ∨ v.2.1 0 p = 42 ∨ v.2.1 0 p = 43) → Nd v (H.env []) a ∧ Sp.rdAt (H.env []) (ob v p) 1 = some (ob v a))
    (tB : 32 ≤ v.2.1 0 p → v.2.1 0 p ≤ 36 → Nd v (H.env []) b ∧ Sp.rdAt (H.env []) (ob v p) 2 = some (ob v b))
    (tC : v.2.1 0 p = 35 ∨ v.2.1 0 p = 36 → Nd v (H.env []) d ∧ Sp.rdAt (H.env []) (ob v p) 3 = some (ob v d))
    (hcs : ∀ (i : Nat) (h : i < cs.length), ClzOk v (H.env []) (c + (i : Int)) ∧ clz v (c + (i : Int)) = cs[i] ∧ cs[i].Nodup ∧ ∀ y, y ∈ cs[i] → y.sz ≤ 120)
    (n1 : Ob.lft (ob v p) = Ob.weak ∨ Ob.lft (ob v p) = Ob.inst ∨ Ob.lft (ob v p) = Ob.swap → cs.length = 1) (n2 : Ob.lft (ob v p) = Ob.cut ∨ Ob.lft (ob v p) = Ob.put → cs.length = 2) (n3 : Ob.lft (ob v p) = Ob.induct → (cs.length : Int) + 3 = (ob v p).len)
    (hq : ∀ r w, CcO u w (H.env []) R r → Q r w) : pw_concludes_184 Q p c a b d v := by
  have hT := hX.1
  have hU := hX.2.1
  obtain ⟨f0, f1, r0, r1, ef, er, _⟩ := ob_lft hT p0 p1 hpr
  have kf : ∀ (c : Int) (o : Ob), 0 ≤ c → c < 44 → Ob.known[c.toNat]? = some o → (v.2.1 0 p = c ↔ Ob.lft (ob v p) = o) := fun c o c0 c4 ho => by
    rw [ef]; exact kat hT hU c c0 c4 ho f0 (by omega)
  have first : ∀ h : 0 < cs.length, ClzOk v (H.env []) c ∧ cs.getD 0 [] = clz v c ∧ (clz v c).Nodup := fun h => by
    obtain ⟨h1, h2, h3, h4⟩ := hcs 0 h
    rw [show c + ((0 : Nat) : Int) = c by omega] at h1 h2
    refine ⟨h1, ?_, by rw [h2]; exact h3⟩
    rw [h2, List.getD_eq_getElem?_getD, List.getElem?_eq_getElem h]; rfl
  have second : ∀ h : 1 < cs.length, ClzOk v (H.env []) (c + 1) ∧ cs.getD 1 [] = clz v (c + 1) ∧ ∀ y, y ∈ clz v (c + 1) → y.sz ≤ 120 := fun h => by
    obtain ⟨h1, h2, h3, h4⟩ := hcs 1 h
    rw [show c + ((1 : Nat) : Int) = c + 1 by omega] at h1 h2
    refine ⟨h1, ?_, by rw [h2]; exact h4⟩
    rw [h2, List.getD_eq_getElem?_getD, List.getElem?_eq_getElem h]; rfl
  unfold pw_concludes_184
  intro _ _ y ey _
  rw [ey]
  refine ⟨fun c29 => ?_, fun c29 => ⟨fun c30 => ?_, fun c30 => ⟨fun c31 => ?_, fun c31 => ⟨fun c32 => ?_, fun c32 => ⟨fun c33 => ?_, fun c33 => ⟨fun c34 => ?_, fun c34 => ⟨fun c35 => ?_, fun c35 => ⟨fun c36 => ?_, fun c36 => ⟨fun c37 => ?_, fun c37 => ⟨fun c38 => ?_, fun c38 => ⟨fun c39 => ?_, fun c39 => ⟨fun c40 => ?_, fun c40 => ⟨fun c41 => ?_, fun c41 => ⟨fun c42 => ?_, fun c42 => ⟨fun c43 => ?_, fun c43 => ?_⟩⟩⟩⟩⟩⟩⟩⟩⟩⟩⟩⟩⟩⟩⟩
  · obtain ⟨na, ra⟩ := tA (by omega)
    exact cc_taut hP hd h71 ((kf 29 Ob.taut (by decide) (by decide) rfl).mp c29) na ra hq
  · obtain ⟨na, ra⟩ := tA (by omega)
    exact cc_same hP hd h71 ((kf 30 Ob.same (by decide) (by decide) rfl).mp c30) na ra hq
  · obtain ⟨na, ra⟩ := tA (by omega)
    have hh := (kf 31 Ob.value (by decide) (by decide) rfl).mp c31
    rw [isForm_value hh, ra, Bool.and_eq_true] at hf
    exact cc_value hP hd h71 hX.2.2.1.1 hh na ra hf.2 hq
  · obtain ⟨na, ra⟩ := tA (by omega)
    obtain ⟨nb, rb⟩ := tB (by omega) (by omega)
    exact cc_first hP hd h71 ((kf 32 Ob.first (by decide) (by decide) rfl).mp c32) na ra nb rb hq
  · obtain ⟨na, ra⟩ := tA (by omega)
    obtain ⟨nb, rb⟩ := tB (by omega) (by omega)
    exact cc_second hP hd h71 ((kf 33 Ob.second (by decide) (by decide) rfl).mp c33) na ra nb rb hq
  · obtain ⟨na, ra⟩ := tA (by omega)
    obtain ⟨nb, rb⟩ := tB (by omega) (by omega)
    exact cc_pair hP hd h71 ((kf 34 Ob.pair (by decide) (by decide) rfl).mp c34) na ra nb rb hq
  · obtain ⟨na, ra⟩ := tA (by omega)
    obtain ⟨nb, rb⟩ := tB (by omega) (by omega)
    obtain ⟨nc, rc⟩ := tC (by omega)
    exact cc_yes hP hd h71 ((kf 35 Ob.yes (by decide) (by decide) rfl).mp c35) na ra nb rb nc rc hq
  · obtain ⟨na, ra⟩ := tA (by omega)
    obtain ⟨nb, rb⟩ := tB (by omega) (by omega)
    obtain ⟨nc, rc⟩ := tC (by omega)
    exact cc_no hP hd h71 ((kf 36 Ob.no (by decide) (by decide) rfl).mp c36) na ra nb rb nc rc hq
  · have hh := (kf 37 Ob.defS (by decide) (by decide) rfl).mp c37
    rw [isForm_defS hh, Bool.and_eq_true, beq_iff_eq] at hf
    exact cc_defS hP hd h71 h61 hX p0 p1 hf.1 hh hf.2 hq
  · have hh := (kf 38 Ob.thm (by decide) (by decide) rfl).mp c38
    rw [isForm_thm hh, Bool.and_eq_true, beq_iff_eq] at hf
    exact cc_thm hP hd hX.2.2.1.2.2.2 hX.2.2.2.1 p0 p1 hf.1 hh hf.2 hq
  · have hh := (kf 39 Ob.weak (by decide) (by decide) rfl).mp c39
    rw [isForm_weak hh, Bool.and_eq_true, Bool.and_eq_true, beq_iff_eq, bne_iff_ne, List.all_eq_true] at hf
    obtain ⟨k1, k2, k3⟩ := first (by rw [n1 (Or.inl hh)]; decide)
    exact cc_weak hP hd h71 hX.2.2.1 p0 p1 hf.1.1 hh hf.1.2 hf.2 k1 k3 k2 hq
  · obtain ⟨na, ra⟩ := tA (by omega)
    have hh := (kf 40 Ob.cut (by decide) (by decide) rfl).mp c40
    obtain ⟨k1, k2, k3⟩ := first (by rw [n2 (Or.inl hh)]; decide)
    obtain ⟨m1, m2, m3⟩ := second (by rw [n2 (Or.inl hh)]; decide)
    exact cc_cut hP hd h71 h61 hh na ra k1 m1 k2 m2 m3 hq
  · have hh := (kf 41 Ob.inst (by decide) (by decide) rfl).mp c41
    rw [isForm_inst hh, Bool.and_eq_true, decide_eq_true_eq] at hf
    obtain ⟨k1, k2, k3⟩ := first (by rw [n1 (Or.inr (Or.inl hh))]; decide)
    have pr2 : (Ob.rgt (ob v p)).isPr = true := by
      have h2 := hf.1
      cases e : ob v p with
      | var x => rw [e] at hpr; cases hpr
      | op x y =>
        rw [e] at h2
        rw [show Ob.rgt (.op x y) = y from rfl]
        cases y with
        | op _ _ => rfl
        | var z =>
          rw [show Ob.len (.op x (.var z)) = Ob.len (Ob.pr x (.var z)) from rfl, Ob.len_pr, Ob.len_var] at h2
          by_cases cz : .var z = Ob.nil
          · rw [if_pos cz] at h2; exact absurd h2 (by decide)
          · rw [if_neg cz] at h2; exact absurd h2 (by decide)
    exact cc_inst hP hd h71 hX.2.2.1 p0 p1 hpr pr2 hh hf.2 k1 k2 hq
  · have hh := (kf 42 Ob.swap (by decide) (by decide) rfl).mp c42
    obtain ⟨k1, k2, k3⟩ := first (by rw [n1 (Or.inr (Or.inr hh))]; decide)
    exact cc_swap hP hd h71 hh k1 k3 k2 hq
  · have hh := (kf 43 Ob.put (by decide) (by decide) rfl).mp c43
    obtain ⟨k1, k2, k3⟩ := first (by rw [n2 (Or.inr hh)]; decide)
    obtain ⟨m1, m2, m3⟩ := second (by rw [n2 (Or.inr hh)]; decide)
    exact cc_put hP hd h71 hh k1 k3 m1 k2 m2 hq
  · obtain ⟨na, ra⟩ := tA (by omega)
    have nk : ∀ (k : Int) (o : Ob), 0 ≤ k → k < 44 → Ob.known[k.toNat]? = some o → ¬ v.2.1 0 p = k → ¬ Ob.lft (ob v p) = o := fun k o k0 k4 ho hn z => hn ((kf k o k0 k4 ho).mpr z)
    have hh : Ob.lft (ob v p) = Ob.induct := by
      by_cases c27 : Ob.lft (ob v p) = Ob.induct
      · exact c27
      · exfalso
        rw [isForm_else (fun z => z.elim (nk 29 _ (by decide) (by decide) rfl c29) (nk 30 _ (by decide) (by decide) rfl c30)) (nk 31 _ (by decide) (by decide) rfl c31) (fun z => z.elim (nk 32 _ (by decide) (by decide) rfl c32) (fun z => z.elim (nk 33 _ (by decide) (by decide) rfl c33) (nk 34 _ (by decide) (by decide) rfl c34))) (fun z => z.elim (nk 35 _ (by decide) (by decide) rfl c35) (nk 36 _ (by decide) (by decide) rfl c36)) (nk 37 _ (by decide) (by decide) rfl c37) (nk 38 _ (by decide) (by decide) rfl c38) (nk 39 _ (by decide) (by decide) rfl c39) (nk 40 _ (by decide) (by decide) rfl c40) (nk 41 _ (by decide) (by decide) rfl c41) (nk 42 _ (by decide) (by decide) rfl c42) (nk 43 _ (by decide) (by decide) rfl c43) c27] at hf
        cases hf
    rw [isForm_induct hh, Bool.and_eq_true, Bool.and_eq_true, Bool.and_eq_true, decide_eq_true_eq, beq_iff_eq] at hf
    refine cc_induct hP h71 h61 hX p0 p1 hf.1.1.1 hh hf.1.2 na ra (fun i hi => ⟨(hcs i hi).1, (hcs i hi).2.1⟩) (fun D hD => ?_) hq
    have h2 := hf.2
    rw [hD] at h2
    have h2 : (Ob.len (ob v p) == 3 + ((Sp.paths D.body).length : Int)) = true := h2
    rw [beq_iff_eq] at h2
    have := n3 hh
    omega
