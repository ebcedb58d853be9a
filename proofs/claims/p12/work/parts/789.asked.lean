-- deps: 788
/-! the class: what a definition wants -/
theorem const_nocall [DecidableEq Ob] {n x : Ob} (hnq : n ≠ Ob.quote) : (Ob.ptM false (Ob.constOf x)).any (fun y => Ob.isCallOf y n) = false := by
  have q : (Ob.ptM false (.pr Ob.quote (.pr x Ob.nil))).any (fun y => Ob.isCallOf y n) = false := by
    rw [show Ob.ptM false (.pr Ob.quote (.pr x Ob.nil)) = _ from pt_pr _ _, if_pos rfl]
    show (decide (Ob.quote = n) || false) = false
    rw [decide_eq_false (fun z => hnq z.symm)]
    rfl
  unfold Ob.constOf
  split
  · next h =>
    cases x with
    | var y => rfl
    | op a b =>
      exfalso
      have h : ((false || decide ((.op a b : Ob) = Ob.nil)) || decide ((.op a b : Ob) = Ob.t)) = true := h
      rw [decide_eq_false (fun z => by cases z), decide_eq_false (fun z => by cases z)] at h
      cases h
  · exact q
/-- a term with no call of the name that is coming -/
theorem rdM_own [DecidableEq Ob] {E : Sp.Env} {n : Ob} {k : Int} (hnq : n ≠ Ob.quote) : ∀ (m : Bool) (o : Ob), Ob.rdM (Sp.arC E n (-1)) m o = (match Ob.rdM (Sp.arC E n k) m o with | some y => if (Ob.ptM m y).any (fun x => Ob.isCallOf x n) = true then none else some y | none => none)
  | true, .var x => rfl
  | false, .var x => rfl
  | true, .op a b => by
    have h1 := rdM_own (k := k) hnq false a (E := E)
    have h2 := rdM_own (k := k) hnq true b (E := E)
    rw [rdM_row, rdM_row, h1, h2]
    cases e1 : Ob.rdM (Sp.arC E n k) false a with
    | none => rfl
    | some x =>
      cases e2 : Ob.rdM (Sp.arC E n k) true b with
      | none =>
        show (match (if (Ob.ptM false x).any (fun x => Ob.isCallOf x n) = true then none else some x), (none : Option Ob) with | some x, some y => some (Ob.pr x y) | _, _ => none) = none
        split
        · next h => cases h
        · rfl
      | some y =>
        show (match (if (Ob.ptM false x).any (fun x => Ob.isCallOf x n) = true then none else some x), (if (Ob.ptM true y).any (fun x => Ob.isCallOf x n) = true then none else some y) with | some x, some y => some (Ob.pr x y) | _, _ => none) = (if (Ob.ptM true (.pr x y)).any (fun x => Ob.isCallOf x n) = true then none else some (.pr x y))
        rw [show Ob.ptM true (.pr x y) = _ from pt_row x y, List.any_append]
        cases (Ob.ptM false x).any (fun x => Ob.isCallOf x n) with
        | true => rfl
        | false =>
          cases (Ob.ptM true y).any (fun x => Ob.isCallOf x n) with
          | true => rfl
          | false => rfl
  | false, .op a b => by
    have h2 := rdM_own (k := k) hnq true b (E := E)
    rw [show Ob.rdM (Sp.arC E n (-1)) false (.op a b) = _ from rdM_pr _ a b, show Ob.rdM (Sp.arC E n k) false (.op a b) = _ from rdM_pr _ a b]
    by_cases hq : a = Ob.quote
    · rw [if_pos hq, if_pos hq]
      by_cases hb : Ob.isQuoted (.pr a b) = true
      · rw [if_pos hb]
        show _ = (if (Ob.ptM false (Ob.constOf (Ob.lft b))).any (fun x => Ob.isCallOf x n) = true then none else some (Ob.constOf (Ob.lft b)))
        rw [const_nocall hnq]
        rfl
      · rw [if_neg hb]
    · rw [if_neg hq, if_neg hq]
      by_cases hn : a = n
      · have e : Sp.arC E n (-1) a = -1 := if_pos hn
        rw [if_pos (Or.inl e)]
        by_cases hc : Sp.arC E n k a = -1 ∨ Ob.len b ≠ Sp.arC E n k a
        · rw [if_pos hc]
        · rw [if_neg hc]
          cases Ob.rdM (Sp.arC E n k) true b with
          | none => rfl
          | some y =>
            show none = (if (Ob.ptM false (Ob.pr a y)).any (fun x => Ob.isCallOf x n) = true then none else some (Ob.pr a y))
            rw [show Ob.ptM false (.pr a y) = _ from pt_pr a y, if_neg hq, List.any_cons]
            have : Ob.isCallOf (.pr a y) n = true := decide_eq_true hn
            rw [this]
            rfl
      · have e1 : Sp.arC E n (-1) a = Sp.arOf E a := if_neg hn
        have e2 : Sp.arC E n k a = Sp.arOf E a := if_neg hn
        rw [e1, e2]
        by_cases hc : Sp.arOf E a = -1 ∨ Ob.len b ≠ Sp.arOf E a
        · rw [if_pos hc, if_pos hc]
        · rw [if_neg hc, if_neg hc, h2]
          cases Ob.rdM (Sp.arC E n k) true b with
          | none => rfl
          | some y =>
            show (match (if (Ob.ptM true y).any (fun x => Ob.isCallOf x n) = true then none else some y) with | some y => some (Ob.pr a y) | none => none) = (if (Ob.ptM false (.pr a y)).any (fun x => Ob.isCallOf x n) = true then none else some (.pr a y))
            rw [show Ob.ptM false (.pr a y) = _ from pt_pr a y, if_neg hq, List.any_cons]
            have : Ob.isCallOf (.pr a y) n = false := decide_eq_false hn
            rw [this, Bool.false_or]
            cases (Ob.ptM true y).any (fun x => Ob.isCallOf x n) with
            | true => rfl
            | false => rfl
theorem rdT_own [DecidableEq Ob] {E : Sp.Env} {n : Ob} {k : Int} (hnq : n ≠ Ob.quote) (o : Ob) : Ob.rdT (Sp.arC E n (-1)) o = (match Ob.rdT (Sp.arC E n k) o with | some M => if Sp.hasCall M n = true then none else some M | none => none) := by
  unfold Ob.rdT
  rw [rdM_own (k := k) hnq false o]
  cases Ob.rdM (Sp.arC E n k) false o with
  | none => rfl
  | some y =>
    show (match (if (Ob.ptM false y).any (fun x => Ob.isCallOf x n) = true then none else some y) with | some x => if Ob.sz x ≤ 120 then some x else none | none => none) = (match (if Ob.sz y ≤ 120 then some y else none) with | some M => if Sp.hasCall M n = true then none else some M | none => none)
    have ec : Sp.hasCall y n = (Ob.ptM false y).any (fun x => Ob.isCallOf x n) := rfl
    by_cases c : Ob.sz y ≤ 120
    · rw [if_pos c]
      show _ = (if Sp.hasCall y n = true then none else some y)
      rw [ec]
      cases (Ob.ptM false y).any (fun x => Ob.isCallOf x n) with
      | true => rfl
      | false => exact if_pos c
    · rw [if_neg c]
      cases (Ob.ptM false y).any (fun x => Ob.isCallOf x n) with
      | true => rfl
      | false => exact if_neg c
theorem pc_hasCallOfZ [DecidableEq Ob] {a f : Int} {Q : Int → iST → Prop} {u : iST} {ar : Ob → Int} (hT : CT u) (na : VN u a) (hw : Ob.wt ar (oc u a)) (hz : (oc u a).sz ≤ 120) (hf : VN u f) (hq : ∀ r v, CG f80 f8q u v → v.2.2 = u.2.2 → (r = 0 ∨ r = 1) → bq r (Sp.hasCall (oc u a) (oc u f)) → Q r v) : pv_10_hasCallOf a f Q u := by
  unfold pv_10_hasCallOf
  refine pc_listParts hT na hw hz (fun n v gv hP hn hc => ?_)
  have ec : ∀ k, oc v k = oc u k := oc_same hc
  have hfv := hf.up gv
  refine pv_10_hasCallOf_9_i (fun x2 x3 x4 y => x2 = f ∧ x3 = n ∧ y = v ∧ 0 ≤ x4 ∧ ∀ i, 0 ≤ i → i < x4 → Ob.isCallOf (oc v (v.2.1 43 i)) (oc u f) = false) ?_ ⟨rfl, rfl, rfl, Int.le_refl _, fun i i0 i1 => by omega⟩
  rintro x2 x3 x4 y ⟨e2, e3, ey, a0, ha⟩
  rw [e2, e3, ey]
  unfold pv_10_hasCallOf_9b
  refine ⟨fun h _ => hq 0 v gv hc (Or.inl rfl) (bq0 (bf_of (fun z => ?_))), fun h => ?_⟩
  · obtain ⟨x, hx, hx2⟩ := List.any_eq_true.mp z
    obtain ⟨i, i0, i1, e⟩ := (hP.all x).mp hx
    rw [← e, ha i i0 (by omega)] at hx2
    cases hx2
  · intro _ _ p ep _
    have vp := hP.2.1 x4 a0 (by omega)
    rw [← ep] at vp
    refine pc_isCallOf gv.1 vp hfv (fun r hr => ⟨fun z => ?_, fun z _ => hq 1 v gv hc (Or.inr rfl) (bq1 ?_)⟩)
    · intro _
      refine ⟨rfl, rfl, rfl, by omega, fun i i0 i1 => ?_⟩
      by_cases q : i = x4
      · rw [q, ← ep]
        have := hr.f z
        rw [ec f] at this; exact this
      · exact ha i i0 (by omega)
    · refine List.any_eq_true.mpr ⟨oc v p, (hP.all _).mpr ⟨x4, a0, by omega, by rw [← ep]⟩, ?_⟩
      have := hr.t z
      rw [ec f] at this; exact this
def f8Dn (k : Nat) : Bool := decide (k = 29) || decide (32 ≤ k ∧ k ≤ 35) || decide (37 ≤ k ∧ k ≤ 38) || decide (44 ≤ k ∧ k ≤ 47)
def f8Dr (k : Nat) : Bool := decide (27 ≤ k ∧ k ≤ 33) || decide (37 ≤ k ∧ k ≤ 43)
theorem f8B_D [DecidableEq Ob] : ∀ k, f8Dn k = false → f8B k = false := fun k h => by
  unfold f8Dn at h
  unfold f8B
  simp only [Bool.or_eq_false_iff, decide_eq_false_iff_not] at h ⊢
  omega
theorem f8W_D [DecidableEq Ob] : ∀ k, f8Dr k = false → f8W k = false := fun k h => by
  unfold f8Dr at h
  unfold f8W
  simp only [Bool.or_eq_false_iff, decide_eq_false_iff_not] at h ⊢
  omega
theorem f8q_D [DecidableEq Ob] : ∀ k, f8Dr k = false → f8q k = false := fun k h => by
  unfold f8Dr at h
  unfold f8q
  simp only [Bool.or_eq_false_iff, decide_eq_false_iff_not] at h ⊢
  omega
theorem f8i_D [DecidableEq Ob] : ∀ k, f8Dn k = false → f8i k = false := fun k h => by
  unfold f8Dn at h
  unfold f8i
  simp only [Bool.or_eq_false_iff, decide_eq_false_iff_not] at h ⊢
  omega
theorem f8j_D [DecidableEq Ob] : ∀ k, f8Dr k = false → f8j k = false := fun k h => by
  have h1 := f8q_D k h
  unfold f8Dr at h
  unfold f8j
  simp only [Bool.or_eq_false_iff, decide_eq_false_iff_not] at h ⊢
  exact ⟨by omega, h1⟩
theorem f80_D [DecidableEq Ob] : ∀ k, f8Dn k = false → f80 k = false := fun _ _ => rfl
theorem pc_isNameAt [DecidableEq Ob] {a : Int} {Q : Int → iST → Prop} {u : iST} (hT : CT u) (va : VN u a) (hq : ∀ r v, CG f8Dn f8Dr u v → v.2 = u.2 → (∀ k, k ≠ 44 → v.1 k = u.1 k) → VN v (v.1 44) → oc v (v.1 44) = Ob.item (oc u a) 1 → bq r (Ob.isName (Ob.item (oc u a) 1)) → Q r v) : pv_11_isNameAt a Q u := by
  unfold pv_11_isNameAt
  refine pc_item hT va (by decide) (fun t vt et => ?_)
  have et : oc u t = Ob.item (oc u a) 1 := et
  intro y ey v2 e2 _
  have g : CG f8Dn f8Dr u y := by rw [ey]; exact CG_I hT (by decide) (by decide)
  have y44 : y.1 44 = t := by rw [ey, iIc_at]
  have yn : ∀ k, k ≠ 44 → y.1 k = u.1 k := fun k hk => by rw [ey, iIc_ne _ _ hk]
  have y2 : y.2 = u.2 := by rw [ey]; rfl
  have eo : oc y t = Ob.item (oc u a) 1 := (oc_same (u := u) (v := y) (by rw [y2]) t).trans et
  rw [y44] at e2
  rw [e2]
  refine pc_isName g.1 (vt.up g) (fun r hr _ => hq r y g y2 yn (by rw [y44]; exact vt.up g) (by rw [y44]; exact eo) ?_)
  rw [← eo]
  exact hr
theorem pc_readE2 [DecidableEq Ob] {k : Int} {Q : Int → iST → Prop} {u : iST} {E : Sp.Env} (hR : RdE u E) (hk : VN u k) (hz : npr (oc u k) ≤ 100000) (hroom : u.1 29 + npr (oc u k) ≤ 160000)
    (hq : ∀ r v, CG f8B f8W u v → RdE v E → v.1 29 ≤ u.1 29 + Ob.csM false (oc u k) → ((r = -1 ∧ Ob.rdT (Sp.arOf E) (oc u k) = none) ∨ (NdC v E r ∧ Ob.rdT (Sp.arOf E) (oc u k) = some (oc v r))) → Q r v) : pv_10_rebuilt k 0 Q u := by
  obtain ⟨hT, hD, h37, h32, hs0⟩ := hR
  obtain ⟨c1, c2⟩ := csM_npr false (oc u k)
  have c2 : (oc u k).sz ≤ npr (oc u k) + 1 := c2
  refine pc_readX (ar := Sp.arOf E) hT hD (Or.inl ⟨h37, rfl⟩) (arOf6 hD) hs0 hk (by omega) h32 (by omega) (fun r v gv v29 v32 hor => hq r v gv (RdE.B ⟨hT, hD, h37, h32, hs0⟩ gv v32) v29 ?_)
  rcases hor with q | ⟨a, b, c, d⟩
  · exact Or.inl q
  · exact Or.inr ⟨⟨a, b, c⟩, d⟩
/-- what the reading of a command's terms makes at most -/
def askM [DecidableEq Ob] (o : Ob) : Int := Ob.csM false (Ob.item o 1) + (if Ob.lft o = Ob.prove then 0 else Ob.csM false (Ob.item o 2)) + (if Ob.lft o = Ob.defun then Ob.csM false (Ob.item o 3) + Ob.csM false (Ob.item o 4) else 0)
theorem askM_k [DecidableEq Ob] (o : Ob) : 0 ≤ askM o ∧ Ob.csM false (Ob.item o 1) ≤ askM o ∧ (Ob.lft o ≠ Ob.prove → Ob.csM false (Ob.item o 2) ≤ askM o) ∧ (Ob.lft o = Ob.defun → Ob.csM false (Ob.item o 3) + Ob.csM false (Ob.item o 4) ≤ askM o) := by
  have a1 := (csM_it false (Ob.item o 1)).1
  have a2 := (csM_it false (Ob.item o 2)).1
  have a3 := (csM_it false (Ob.item o 3)).1
  have a4 := (csM_it false (Ob.item o 4)).1
  have b2 : 0 ≤ (if Ob.lft o = Ob.prove then 0 else Ob.csM false (Ob.item o 2)) := by split <;> omega
  have b3 : 0 ≤ (if Ob.lft o = Ob.defun then Ob.csM false (Ob.item o 3) + Ob.csM false (Ob.item o 4) else 0) := by split <;> omega
  unfold askM
  refine ⟨by omega, by omega, fun h => ?_, fun h => ?_⟩
  · rw [if_neg h]; omega
  · rw [if_pos h]; omega
theorem askM_le [DecidableEq Ob] (o : Ob) : askM o ≤ Ob.csM false (Ob.item o 1) + Ob.csM false (Ob.item o 2) + Ob.csM false (Ob.item o 3) + Ob.csM false (Ob.item o 4) := by
  have a2 := (csM_it false (Ob.item o 2)).1
  have a3 := (csM_it false (Ob.item o 3)).1
  have a4 := (csM_it false (Ob.item o 4)).1
  have b2 : (if Ob.lft o = Ob.prove then 0 else Ob.csM false (Ob.item o 2)) ≤ Ob.csM false (Ob.item o 2) := by split <;> omega
  have b3 : (if Ob.lft o = Ob.defun then Ob.csM false (Ob.item o 3) + Ob.csM false (Ob.item o 4) else 0) ≤ Ob.csM false (Ob.item o 3) + Ob.csM false (Ob.item o 4) := by split <;> omega
  unfold askM
  omega
theorem csM_nwd [DecidableEq Ob] : ∀ (m : Bool) (o : Ob), Ob.csM m o + (if m = true then 0 else 1) ≤ nwd m o
  | true, .op a b => by
    have h1 : Ob.csM false a + 1 ≤ nwd false a := csM_nwd false a
    have h2 : Ob.csM true b + 0 ≤ nwd true b := csM_nwd true b
    show 1 + Ob.csM false a + Ob.csM true b + 0 ≤ nwd false a + nwd true b
    omega
  | true, .var x => by
    have := nwd_pos true (.var x)
    show (0 : Int) + 0 ≤ _
    omega
  | false, .op a b => by
    have h2 : Ob.csM true b + 0 ≤ nwd true b := csM_nwd true b
    have h3 := nwd_pos false a
    have h4 := nwd_pos false (.op a b)
    show (if a = Ob.quote then 0 else 1 + Ob.csM true b) + 1 ≤ nwd false (.op a b)
    by_cases c : a = Ob.quote
    · rw [if_pos c]; omega
    · rw [if_neg c, nwd_call c]; omega
  | false, .var x => Int.le_refl _
theorem ask_row [DecidableEq Ob] (b : Ob) : Ob.csM false (Ob.item b 0) + Ob.csM false (Ob.item b 1) + Ob.csM false (Ob.item b 2) + Ob.csM false (Ob.item b 3) ≤ Ob.csM true b := by
  have st : ∀ b : Ob, Ob.csM false (Ob.item b 0) + Ob.csM true (Ob.rgt b) ≤ Ob.csM true b := fun b => by
    cases b with
    | var x => exact Int.le_refl _
    | op x y =>
      show Ob.csM false x + Ob.csM true y ≤ 1 + Ob.csM false x + Ob.csM true y
      omega
  have it : ∀ (b : Ob) (k : Nat), Ob.item b (k + 1) = Ob.item (Ob.rgt b) k := fun b k => by
    cases b with
    | var x => cases k <;> rfl
    | op x y => rfl
  have h0 := st b
  have h1 := st (Ob.rgt b)
  have h2 := st (Ob.rgt (Ob.rgt b))
  have h3 := st (Ob.rgt (Ob.rgt (Ob.rgt b)))
  have h4 := (csM_it true (Ob.rgt (Ob.rgt (Ob.rgt (Ob.rgt b))))).1
  rw [it b 0, it b 1, it b 2, it (Ob.rgt b) 0, it (Ob.rgt b) 1, it (Ob.rgt (Ob.rgt b)) 0]
  omega
theorem askM_npr [DecidableEq Ob] (o : Ob) : askM o ≤ 2 * npr o := by
  cases o with
  | var x =>
    have h0 := askM_le (.var x)
    have h1 : Ob.csM false (Ob.item (.var x) 1) + Ob.csM false (Ob.item (.var x) 2) + Ob.csM false (Ob.item (.var x) 3) + Ob.csM false (Ob.item (.var x) 4) = 0 := rfl
    show _ ≤ 2 * (0 : Int)
    omega
  | op a b =>
    have h0 : askM (.op a b) ≤ Ob.csM false (Ob.item b 0) + Ob.csM false (Ob.item b 1) + Ob.csM false (Ob.item b 2) + Ob.csM false (Ob.item b 3) := askM_le (.op a b)
    have h1 := ask_row b
    have h2 := (csM_np true b).1
    have h3 := npr_pos a
    have h4 := npr_pos b
    show _ ≤ 2 * (1 + npr a + npr b)
    omega
theorem pc_isTermAt [DecidableEq Ob] {a : Int} {k : Nat} {Q : Int → iST → Prop} {u : iST} {E : Sp.Env} (hR : RdE u E) (va : VN u a) (hz : npr (oc u a) ≤ 100000) (hroom : u.1 29 + npr (oc u a) ≤ 160000)
    (hq : ∀ r v, CG f8Dn f8Dr u v → RdE v E → v.1 29 ≤ u.1 29 + Ob.csM false (Ob.item (oc u a) k) → (∀ j, j ≠ 29 → j ≠ 32 → j ≠ 45 → v.1 j = u.1 j) → ((r = 0 ∧ Sp.rdAt E (oc u a) k = none) ∨ (r = 1 ∧ NdC v E (v.1 45) ∧ Sp.rdAt E (oc u a) k = some (oc v (v.1 45)))) → Q r v) : pv_11_isTermAt a (k : Int) Q u := by
  unfold pv_11_isTermAt
  refine pc_item hR.1 va (by omega) (fun t vt et => ?_)
  rw [show ((k : Int)).toNat = k by omega] at et
  have hn := npr_item k (oc u a)
  refine pc_readE2 hR vt (by rw [et]; omega) (by rw [et]; omega) (fun x v gv hv v29 hor => ?_)
  rw [et] at v29 hor
  intro y ey v3 e3 _
  have g : CG f8Dn f8Dr v y := by rw [ey]; exact CG_I hv.1 (by decide) (by decide)
  have y45 : y.1 45 = x := by rw [ey, iIc_at]
  have yn : ∀ k, k ≠ 45 → y.1 k = v.1 k := fun k hk => by rw [ey, iIc_ne _ _ hk]
  have gg : CG f8Dn f8Dr u y := (gv.mono f8B_D f8W_D).tr g
  have hRy : RdE y E := ⟨g.1, hv.2.1.mono hv.1 g (yn 0 (by decide)) (fun k hk => g.2.2.2 k (by unfold f8Dr; simp only [Bool.or_eq_false_iff, decide_eq_false_iff_not]; omega)), (yn 37 (by decide)).trans hv.2.2.1, by rw [yn 32 (by decide)]; exact hv.2.2.2.1, hv.2.2.2.2⟩
  have y29 : y.1 29 ≤ u.1 29 + Ob.csM false (Ob.item (oc u a) k) := by rw [yn 29 (by decide)]; exact v29
  have nj : ∀ j, j ≠ 29 → j ≠ 32 → j ≠ 45 → y.1 j = u.1 j := fun j h1 h2 h3 => by
    rw [yn j h3]
    exact gv.2.2.1 j (by unfold f8B; rw [decide_eq_false h1, decide_eq_false h2]; rfl)
  rw [y45] at e3
  rw [e3]
  rcases hor with ⟨q1, q2⟩ | ⟨q1, q2⟩
  · refine ⟨fun _ _ => hq 0 y gg hRy y29 nj (Or.inl ⟨rfl, q2⟩), fun z => absurd q1 z⟩
  · refine ⟨fun z => by have := q1.1.1; omega, fun _ _ => hq 1 y gg hRy y29 nj (Or.inr ⟨rfl, ?_, ?_⟩)⟩
    · rw [y45]; exact (q1.up hv.1 g).1
    · rw [y45, (q1.up hv.1 g).2]; exact q2
