-- deps: 79987
/-! the class: run -/
theorem nwd_rgt [DecidableEq Ob] (b : Ob) : nwd true (Ob.rgt b) ≤ nwd true b := by
  cases b with
  | var x =>
    have h1 : nwd true (Ob.rgt (.var x)) = 1 := nil_words.1
    have h2 := nwd_pos true (.var x)
    omega
  | op a c =>
    have h1 := nwd_pos false a
    show nwd true c ≤ nwd false a + nwd true c
    omega
theorem cpL_nwd [DecidableEq Ob] : ∀ o : Ob, cpL (Ob.toList o) ≤ nwd true o
  | .var x => by
    have := nwd_pos true (.var x)
    show (0 : Int) ≤ _
    omega
  | .op a b => by
    have h1 := cpL_nwd b
    have h2 : Ob.csM false (Ob.item a 1) ≤ nwd false a := by
      cases a with
      | var x =>
        show (0 : Int) ≤ 1
        decide
      | op x y =>
        cases y with
        | var z =>
          have := nwd_pos false (.op x (.var z))
          show (0 : Int) ≤ _
          omega
        | op y c =>
          have h3 : Ob.csM false y + 1 ≤ nwd false y := csM_nwd false y
          have h4 := nwd_pos false x
          have h5 := nwd_pos true c
          have h6 : nwd true (.op y c) = nwd false y + nwd true c := rfl
          show Ob.csM false y ≤ (if x = Ob.quote ∧ c = Ob.nil then 1 + nwd false y else 1 + nwd false x + nwd true (.op y c))
          split <;> omega
    show Ob.csM false (Ob.item a 1) + cpL (Ob.toList b) ≤ nwd false a + nwd true b
    omega
theorem cpH_nwd [DecidableEq Ob] : ∀ o : Ob, cpH (Ob.toList o) ≤ nwd true o
  | .var x => by
    have := nwd_pos true (.var x)
    show (0 : Int) ≤ _
    omega
  | .op a b => by
    have h1 := cpH_nwd b
    have h2 : cpL (Ob.toList (Ob.rgt (Ob.rgt a))) ≤ nwd false a := by
      cases a with
      | var x =>
        show (0 : Int) ≤ 1
        decide
      | op x y =>
        cases y with
        | var z =>
          have := nwd_pos false (.op x (.var z))
          show (0 : Int) ≤ _
          omega
        | op y c =>
          have h3 := cpL_nwd c
          have h4 := nwd_pos false x
          have h5 := nwd_pos false y
          have h6 : nwd true (.op y c) = nwd false y + nwd true c := rfl
          show cpL (Ob.toList c) ≤ (if x = Ob.quote ∧ c = Ob.nil then 1 + nwd false y else 1 + nwd false x + nwd true (.op y c))
          split
          · next q =>
            rw [q.2]
            show (0 : Int) ≤ _
            omega
          · omega
    show cpL (Ob.toList (Ob.rgt (Ob.rgt a))) + cpH (Ob.toList b) ≤ nwd false a + nwd true b
    omega
theorem ask_step [DecidableEq Ob] (b : Ob) : Ob.csM false (Ob.item b 0) + nwd true (Ob.rgt b) ≤ nwd true b := by
  cases b with
  | var x =>
    have h1 : nwd true (Ob.rgt (.var x)) = 1 := nil_words.1
    have h2 := nwd_pos true (.var x)
    show (0 : Int) + _ ≤ _
    omega
  | op a c =>
    have h1 : Ob.csM false a + 1 ≤ nwd false a := csM_nwd false a
    show Ob.csM false a + nwd true c ≤ nwd false a + nwd true c
    omega
theorem ask_nwd [DecidableEq Ob] {o : Ob} (hp : o.isPr = true) (h : Ob.lft o ≠ Ob.quote) : askM o + cpH (hsA o) ≤ nwd true (Ob.rgt o) ∧ nwd true (Ob.rgt o) + 2 ≤ nwd false o := by
  have base : askM o ≤ Ob.csM true (Ob.rgt o) := by
    have h1 := askM_le o
    have h2 := ask_row (Ob.rgt o)
    rw [item_rgt o 0, item_rgt o 1, item_rgt o 2, item_rgt o 3] at h2
    have h2 : Ob.csM false (Ob.item o 1) + Ob.csM false (Ob.item o 2) + Ob.csM false (Ob.item o 3) + Ob.csM false (Ob.item o 4) ≤ Ob.csM true (Ob.rgt o) := h2
    omega
  have hc : Ob.csM true (Ob.rgt o) + 0 ≤ nwd true (Ob.rgt o) := csM_nwd true (Ob.rgt o)
  refine ⟨?_, ?_⟩
  · by_cases c1 : Ob.lft o = Ob.prove
    · have e1 : askM o = Ob.csM false (Ob.item o 1) := by
        unfold askM
        rw [if_pos c1, if_neg (by rw [c1]; exact Ob.sym_ne (by decide))]
        omega
      have e2 : hsA o = Ob.toList (Ob.rgt (Ob.rgt o)) := by
        unfold hsA
        rw [if_pos c1, ← rr_drop1]
      have h1 := ask_step (Ob.rgt o)
      have h2 := cpH_nwd (Ob.rgt (Ob.rgt o))
      rw [item_rgt o 0] at h1
      rw [e1, e2]
      have h1 : Ob.csM false (Ob.item o 1) + nwd true (Ob.rgt (Ob.rgt o)) ≤ nwd true (Ob.rgt o) := h1
      omega
    · by_cases c2 : Ob.lft o = Ob.defthm
      · have e1 : askM o = Ob.csM false (Ob.item o 1) + Ob.csM false (Ob.item o 2) := by
          unfold askM
          rw [if_neg c1, if_neg (by rw [c2]; exact Ob.sym_ne (by decide))]
          omega
        have e2 : hsA o = Ob.toList (Ob.rgt (Ob.rgt (Ob.rgt o))) := by
          unfold hsA
          rw [if_neg c1, if_pos c2, ← rr_drop2]
        have h1 := ask_step (Ob.rgt o)
        have h3 := ask_step (Ob.rgt (Ob.rgt o))
        have h2 := cpH_nwd (Ob.rgt (Ob.rgt (Ob.rgt o)))
        rw [item_rgt o 0] at h1
        rw [item_rgt (Ob.rgt o) 0, item_rgt o 1] at h3
        have h1 : Ob.csM false (Ob.item o 1) + nwd true (Ob.rgt (Ob.rgt o)) ≤ nwd true (Ob.rgt o) := h1
        have h3 : Ob.csM false (Ob.item o 2) + nwd true (Ob.rgt (Ob.rgt (Ob.rgt o))) ≤ nwd true (Ob.rgt (Ob.rgt o)) := h3
        rw [e1, e2]
        omega
      · rw [hsA_0 c1 c2]
        show askM o + 0 ≤ _
        omega
  · cases o with
    | var x => cases hp
    | op a b =>
      have h : a ≠ Ob.quote := h
      have h2 := nwd_pos false a
      rw [nwd_call h]
      show nwd true b + 2 ≤ _
      omega
/-- all that a command makes fits in the room, from B on -/
def FitR [DecidableEq Ob] (H : Sp.Hs) (fuel : Nat) (o : Ob) (B : Int) : Prop :=
  (∀ T, Sp.rdAt (H.env []) o 1 = some T → FitE (B + 3100) (Sp.ev (H.env []) 300 (fun x => x) T (fuel, 1000000, 0)) ∧ Fit (B + 3100) (Sp.rw (H.env []) 60 [] T false (fuel, 0))) ∧
  (∀ (k : Nat) F, (k = 1 ∨ k = 2) → Sp.rdAt (H.env []) o k = some F → Sp.hintsAsk (H.env []) ((Ob.toList o).drop (k + 1)) = 0 → FitT (B + 3100) H F ((Ob.toList o).drop (k + 1)) fuel) ∧
  (∀ X M, DfH o → Ob.rdT (Sp.arC (H.env []) (Ob.item o 1) (Ob.toList (Ob.item o 2)).length) (Ob.item o 3) = some X → (if Ob.len o = 5 then (Ob.rdT (Sp.arC (H.env []) (Ob.item o 1) (Ob.toList (Ob.item o 2)).length) (Ob.item o 4)).map some else some none) = some (some M) → Sp.dfOk o X (some M) → FitM (B + 3100) (H.env []) (Sp.measAll (Ob.toList (Ob.item o 2)) (Ob.item o 1) M (Sp.paths X)) fuel) ∧
  Fit (B + (7 * npr (Ob.item o 3) + 4001)) (Sp.pf (H.env []) 40 (Ob.item o 3) (fuel, 0))
/-- what a run leaves -/
def RnC [DecidableEq Ob] (γ : Int) (u w : iST) (n : Int) (r : Sp.Res) : Prop := (∃ m, HC w r.1 m) ∧ w.1 48 = r.2.1 ∧ w.1 15 = (r.2.2.1 : Int) ∧ bq (w.1 50) r.2.2.2 ∧ (w.1 42 = 0 ∧ w.1 43 = u.1 43 ∧ w.1 3 ≤ u.1 3 + 3 * n ∧ w.1 29 + γ ≤ 160000) ∧ w.2.1 45 = u.2.1 45 ∧ (r.2.2.2 = true → NgI w ∧ r.2.2.1 = 0)
theorem HC.In [DecidableEq Ob] {u v : iST} {H : Sp.Hs} {m : List Ob} (h : HC u H m) (g : CG f8In f8Ir u v) : HC v H m := h.keep g (fun k hk => g.2.2.1 k (by unfold f8In; simp only [Bool.or_eq_false_iff, decide_eq_false_iff_not]; omega)) (fun k hk => g.2.2.2 k (by unfold f8Ir; exact decide_eq_false (by omega)))
theorem AtD.nq [DecidableEq Ob] {H : Sp.Hs} {o : Ob} {v : iST} (h : AtD H o v) : Ob.lft o ≠ Ob.quote := by
  have ne : ∀ s : List Int, Ob.enc s ≠ Ob.enc [113, 117, 111, 116, 101] → Ob.lft o = Ob.sym s → Ob.lft o ≠ Ob.quote := fun s h1 h2 z => Ob.sym_ne h1 (h2.symm.trans z)
  rcases h with ⟨h, _⟩ | ⟨h, _⟩ | ⟨k, h, _⟩ | ⟨h, _⟩ | ⟨h, _⟩ | ⟨h, _⟩ | ⟨h, _⟩
  · exact ne _ (by decide) h.1
  · exact ne _ (by decide) h.1
  · rcases h.1 with q | q
    · exact ne _ (by decide) q.1
    · exact ne _ (by decide) q.1
  · exact ne _ (by decide) h.1
  · exact ne _ (by decide) h.1
  · rcases h.1 with q | q
    · exact ne _ (by decide) q
    · exact ne _ (by decide) q
  · exact ne _ (by decide) h.1
theorem AtD.pr [DecidableEq Ob] {H : Sp.Hs} {o : Ob} {v : iST} (h : AtD H o v) : o.isPr = true := by
  cases o with
  | op a b => rfl
  | var x =>
    have nil : ∀ s : List Int, Ob.enc s ≠ Ob.enc [110, 105, 108] → Ob.nil = Ob.sym s → False := fun s h1 h2 => Ob.sym_ne h1 h2.symm
    exfalso
    rcases h with ⟨h, _⟩ | ⟨h, _⟩ | ⟨k, h, _⟩ | ⟨h, _⟩ | ⟨h, _⟩ | ⟨h, _⟩ | ⟨h, _⟩
    · exact nil _ (by decide) h.1
    · exact nil _ (by decide) h.1
    · rcases h.1 with q | q
      · exact nil _ (by decide) q.1
      · exact nil _ (by decide) q.1
    · exact nil _ (by decide) h.1
    · exact nil _ (by decide) h.1
    · rcases h.1 with q | q
      · exact nil _ (by decide) q
      · exact nil _ (by decide) q
    · exact nil _ (by decide) h.1
theorem pc_work [DecidableEq Ob] {γ : Int} {a : Int} {fuel : Nat} {Q : Int → iST → Prop} {v : iST} {H : Sp.Hs} (h : HC v H []) (va : VN v a) (h43 : v.1 43 = (fuel : Int)) (hfu : fuel ≤ 1000) (hA : AtD H (oc v a) v) (hh : Sp.hintsAsk (H.env []) (hsA (oc v a)) = 0) (hI : InWd v (H.env []) (hsA (oc v a))) (hN : NaD H (oc v a)) (hw : nwd false (oc v a) ≤ 1000) (h13 : v.1 13 = 0) (h50 : v.1 50 = 0) (γ0 : 0 ≤ γ) (fit : FitR H fuel (oc v a) (v.1 29 + γ)) (hg : v.1 29 + γ ≤ 160000) (hq : ∀ ans w r, Sp.Ran H fuel (oc v a) r → RcO γ v w r → Q ans w) : pv_11_run_62 Q a 0 v := by
  obtain ⟨f1, f2, f3, f4⟩ := fit
  have hnp : npr (oc v a) + 1 ≤ 2 * nwd false (oc v a) := npr_nwd false (oc v a)
  rcases hA with ⟨q, t, _⟩ | ⟨q, t, _⟩ | ⟨k, q, t, _⟩ | ⟨q, t⟩ | ⟨q, _⟩ | ⟨q, _⟩ | ⟨q, t, _⟩
  · exact rn_eval h va h43 hfu q t h13 h50 γ0 (f1 _ q.2.2.1.2).1 hq
  · exact rn_simplify h va h43 hfu q t h13 h50 γ0 (f1 _ q.2.2.2).2 hq
  · have hk : k = 1 ∨ k = 2 := by
      rcases q.1 with p | p
      · exact Or.inl p.2
      · exact Or.inr p.2.1
    have hs : hsA (oc v a) = (Ob.toList (oc v a)).drop (k + 1) := by
      unfold hsA
      rcases q.1 with ⟨p, e⟩ | ⟨p, e, _⟩
      · rw [if_pos p, e]
      · rw [if_neg (show ¬ Ob.lft (oc v a) = Ob.prove from fun z => Ob.sym_ne (by decide) (p.symm.trans z)), if_pos p, e]
    rw [hs] at hh hI
    refine rn_thm h va h43 hfu q t hh hI (fun e => hN.1 (Or.inl ?_)) hw (by omega) h13 h50 γ0 (f2 k _ hk q.2.2.1.2 hh) hq
    rcases q.1 with p | p
    · omega
    · exact p.1
  · obtain ⟨ho, hNm, hD⟩ := q
    obtain ⟨n1, n2⟩ := hN.2.1 ho
    rcases hD with ⟨z, _⟩ | ⟨_, X, m, d1, d2, d3, d4, ⟨d5, d6⟩, d7⟩
    · cases z
    rcases d7 with ⟨e, e46⟩ | ⟨M, e, v46, e46⟩
    · rw [e] at d3 d4
      exact rn_defun0 h va h43 ho hNm d1 d2 d3 d4 d5 d6 e46 n1 n2 h13 hg hq
    · rw [e] at d3 d4
      exact rn_defun h va h43 hfu ho hNm d1 d2 d3 d4 d5 d6 v46 e46 n1 n2 h13 h50 γ0 (f3 X M d1 d2 d3 d4) hq
  · exact rn_check h va h43 hfu q (hN.1 (Or.inr q.1)) hw h13 h50 γ0 f4 hq
  · exact rn_turn h va h43 q (hN.2.2.1 q.1) h13 hg hq
  · exact rn_undo h va h43 q t (hN.2.2.2 q.1) h13 hg hq
theorem cpA [DecidableEq Ob] (o : Ob) : cpH (hsA o) ≤ npr o := by
  have np := npr_pos o
  unfold hsA
  split
  · rw [← rr_drop1]
    have a1 := cpHt (Ob.rgt (Ob.rgt o))
    have a2 := npr_rgt (Ob.rgt o)
    have a3 := npr_rgt o
    omega
  · split
    · rw [← rr_drop2]
      have a1 := cpHt (Ob.rgt (Ob.rgt (Ob.rgt o)))
      have a2 := npr_rgt (Ob.rgt (Ob.rgt o))
      have a3 := npr_rgt (Ob.rgt o)
      have a4 := npr_rgt o
      omega
    · exact np
theorem pc_run [DecidableEq Ob] {γ : Int} {Q : Int → iST → Prop} {u : iST} {H : Sp.Hs} {m : List Ob} {fuel : Nat} (h : HC u H m) (h43 : u.1 43 = (fuel : Int)) (hfu : fuel ≤ 1000) (n0 : 0 ≤ u.1 42) (n3 : u.1 42 ≤ 3000) (hch : ChC u (u.1 42)) (γ0 : 0 ≤ γ) (hk : u.1 3 + 3 * nzT (txN u 0 (u.1 42).toNat) + γ ≤ 15450) (fit : ∀ o B, Sp.read (txN u 0 (u.1 42).toNat) = some o → nwd false o ≤ 1000 → B ≤ 15450 - nwd false o + askM o + cpH (hsA o) → askM o + cpH (hsA o) + 2 ≤ nwd false o → FitR H fuel o B)
    (hq : ∀ ans w r, Sp.RanT0 H fuel (txN u 0 (u.1 42).toNat) r → RnC γ u w (nzT (txN u 0 (u.1 42).toNat)) r → Q ans w) : pv_11_run Q u := by
  have nz := nzT_pos (txN u 0 (u.1 42).toNat)
  unfold pv_11_run
  intro v1 e1 _ y1 ey1
  have hy : HC y1 H m := by rw [ey1]; exact h.i (by decide)
  have yn : ∀ k, k ≠ 42 → y1.1 k = u.1 k := fun k hk => by rw [ey1, iIc_ne _ _ hk]
  have y42 : y1.1 42 = 0 := by rw [ey1, iIc_at]
  have y2 : y1.2 = u.2 := by rw [ey1]; rfl
  refine pc_forgetLatest hy (fun v hF => ?_)
  obtain ⟨hv, v29, ⟨v13, v15, v31, v32⟩, ⟨v44, v45, v46, v47, v48, v49, v50⟩, vn, vr⟩ := hF
  rw [yn 3 (by decide)] at v29
  have vr' : ∀ k, k ≠ 13 → k ≠ 30 → k ≠ 54 → v.2.1 k = u.2.1 k := fun k a b c => by rw [vr k a b c, y2]
  have v42 : v.1 42 = 0 := by rw [vn 42 (by decide)]; exact y42
  have v43 : v.1 43 = (fuel : Int) := by rw [vn 43 (by decide), yn 43 (by decide)]; exact h43
  have v3 : v.1 3 = u.1 3 := by rw [vn 3 (by decide), yn 3 (by decide)]
  have etx : txN v 0 (u.1 42).toNat = txN u 0 (u.1 42).toNat := tx_same44 (vr' 44 (by decide) (by decide) (by decide)) 0 _
  rw [e1]
  refine pc_readT hv.1 (fun i i0 i1 => by rw [vr' 44 (by decide) (by decide) (by decide)]; exact hch i i0 i1) n0 n3 (by omega) (fun r w g w29 hor => ?_)
  rw [etx] at hor
  have hw := hv.In g
  have wn : ∀ k, ¬ (17 ≤ k ∧ k ≤ 22) → k ≠ 29 → w.1 k = v.1 k := fun k a b => g.2.2.1 k (by unfold f8In; simp only [Bool.or_eq_false_iff, decide_eq_false_iff_not]; omega)
  have w45 : w.2.1 45 = u.2.1 45 := by rw [g.2.2.2 45 (by decide), vr' 45 (by decide) (by decide) (by decide)]
  intro v4 e4 _
  rw [e4]
  -- nothing comes of it
  have none : ∀ (ans : Int) (x : iST), HC x H [] → (∀ k, (k = 3 ∨ k = 15 ∨ k = 42 ∨ k = 43 ∨ k = 48 ∨ k = 50) → x.1 k = v.1 k) → x.2.1 45 = u.2.1 45 → x.1 29 + γ ≤ 160000 → Sp.RanT0 H fuel (txN u 0 (u.1 42).toNat) (Sp.nothing H) → Q ans x := fun ans x hx xn x45 x9 hr => by
    refine hq ans x _ hr ⟨⟨[], hx⟩, ?_, ?_, ?_, ⟨?_, ?_, ?_, x9⟩, x45, fun q => by cases q⟩
    · rw [xn 48 (by omega)]; exact v48
    · rw [xn 15 (by omega)]; exact v15
    · rw [xn 50 (by omega), v50]; exact bq0 rfl
    · rw [xn 42 (by omega)]; exact v42
    · rw [xn 43 (by omega), v43, h43]
    · rw [xn 3 (by omega), v3]; omega
  rcases hor with ⟨p1, p2⟩ | ⟨p1, ⟨vr1, w29'⟩, p3⟩
  · refine ⟨fun z => absurd z p1, fun _ => none 1 w hw (fun k hk => wn k (by omega) (by omega)) w45 (by omega) (by unfold Sp.RanT0; rw [p2])⟩
  refine ⟨fun _ => ?_, fun z => absurd p1 z⟩
  have hwd := read_nwd p3
  have hwz := read_nz p3
  have hnp : npr (oc w r) + 1 ≤ 2 * nwd false (oc w r) := npr_nwd false (oc w r)
  have ranT : ∀ x, Sp.Ran H fuel (oc w r) x → Sp.RanT0 H fuel (txN u 0 (u.1 42).toNat) x := fun x hx => by
    unfold Sp.RanT0
    rw [p3]
    exact hx
  refine pc_asked hw (by rw [wn 32 (by omega) (by decide)]; exact v32) vr1 hwd (by omega) (by rw [wn 44 (by omega) (by decide)]; exact v44) (by rw [wn 46 (by omega) (by decide)]; exact v46) (by rw [wn 47 (by omega) (by decide)]; exact v47) (fun x z gz hz z32 z29 hA => ?_)
  have zn : ∀ k, (k = 3 ∨ k = 13 ∨ k = 15 ∨ k = 42 ∨ k = 43 ∨ k = 48 ∨ k = 50) → z.1 k = v.1 k := fun k hk => by
    rw [gz.2.2.1 k (by unfold f8An f8Dn f8a f8Yn; simp only [Bool.or_eq_false_iff, decide_eq_false_iff_not]; omega), wn k (by omega) (by omega)]
  have z45 : z.2.1 45 = u.2.1 45 := by rw [gz.2.2.2 45 (by decide)]; exact w45
  have oz : oc z r = oc w r := gz.oc hw.1 vr1.1 vr1.2
  rcases hA with ⟨q1, q2⟩ | ⟨q1, q2, q3, q4, q5⟩
  · refine ⟨fun _ => ?_, fun c => absurd q1 c⟩
    unfold pv_11_run_62
    exact ⟨fun c => absurd c q1, fun _ => none x z hz (fun k hk => zn k (by omega)) z45 (by have a1 := askM_npr (oc w r); have a2 := cpA (oc w r); omega) (ranT _ (q2 fuel))⟩
  · refine ⟨fun c => absurd q1 c, fun _ => ?_⟩
    intro v18 e18 _
    refine ⟨fun _ => ?_, fun c => absurd (e18.trans z32) c⟩
    rw [q1]
    have nq := q2.nq
    obtain ⟨a1, a2⟩ := ask_nwd q2.pr nq
    rw [← oz] at q2 q3 q4 q5 p3 hwd
    refine pc_work hz (vr1.up gz) (by rw [zn 43 (by omega)]; exact v43) hfu q2 q3 q4 q5 hwd (by rw [zn 13 (by omega)]; exact v13) (by rw [zn 50 (by omega)]; exact v50) γ0 (fit _ _ p3 hwd (by rw [oz]; omega) (by rw [oz]; omega)) (by omega) (fun ans t rr hr hO => hq ans t rr (ranT _ (by rw [← oz]; exact hr)) ?_)
    obtain ⟨o1, o2, o3, o4, ⟨o5, o6, o7, o7b⟩, o8, o9⟩ := hO
    refine ⟨o1, o2, o3, o4, ⟨?_, ?_, ?_, o7b⟩, ?_, o9⟩
    · rw [o5, zn 42 (by omega)]; exact v42
    · rw [o6, zn 43 (by omega), v43, h43]
    · omega
    · rw [o8]; exact z45
