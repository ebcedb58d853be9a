-- deps: 778
/-! the class: a PROOF is begun -/
def fpN [DecidableEq Ob] (f : Int) : Nat := (yT_FIRST_PARTS.getD (f - 28).toNat 0).toNat
def pcN [DecidableEq Ob] (o : Ob) (f : Int) : Int := if f = 43 then Ob.len o - 3 else yT_PART_COUNTS.getD (f - 28).toNat 0
theorem seg_get [DecidableEq Ob] {L : List Ob} {j k i : Nat} (h : i < k) (hk : j + k ≤ L.length) : ((L.drop j).take k)[i]? = some (L.getD (j + i) Ob.nil) := by
  rw [List.getElem?_take_of_lt h, List.getElem?_drop, List.getD_eq_getElem?_getD, List.getElem?_eq_getElem (by omega)]
  rfl
/-- the parts are items behind one another -/
theorem parts_seg [DecidableEq Ob] {E : Sp.Env} {o : Ob} {f : Int} (hf : ∀ (c : Int) (s : Ob), 0 ≤ c → c < 44 → Ob.knownC[c.toNat]? = some s → (f = c ↔ Ob.lft o = s)) (h : Sp.isForm E o = true) : 28 ≤ f ∧ f ≤ 43 ∧ 0 ≤ pcN o f ∧ (fpN f : Int) + pcN o f ≤ Ob.len o ∧ Sp.partsOf o = ((Ob.toList o).drop (fpN f)).take (pcN o f).toNat := by
  have l2 := (isForm_says h).1
  have hp : Ob.len o ≠ -1 := by omega
  have ll := Ob.len_toList hp
  have it : ∀ k : Nat, Ob.item o k = (Ob.toList o).getD k Ob.nil := fun k => Ob.item_get o k
  generalize hL : Ob.toList o = L at ll it
  by_cases c28 : f = 28
  · have e := (hf 28 Ob.taut (by decide) (by decide) rfl).mp c28
    have ef : fpN f = 0 := by rw [c28]; rfl
    have ep : pcN o f = 0 := by rw [c28]; rfl
    rw [ef, ep, ptsC_taut e]
    exact ⟨by omega, by omega, by omega, by omega, rfl⟩
  by_cases c29 : f = 29
  · have e := (hf 29 Ob.same (by decide) (by decide) rfl).mp c29
    have ef : fpN f = 0 := by rw [c29]; rfl
    have ep : pcN o f = 0 := by rw [c29]; rfl
    rw [ef, ep, ptsC_same e]
    exact ⟨by omega, by omega, by omega, by omega, rfl⟩
  by_cases c30 : f = 30
  · have e := (hf 30 Ob.value (by decide) (by decide) rfl).mp c30
    have ef : fpN f = 0 := by rw [c30]; rfl
    have ep : pcN o f = 0 := by rw [c30]; rfl
    rw [ef, ep, ptsC_value e]
    exact ⟨by omega, by omega, by omega, by omega, rfl⟩
  by_cases c31 : f = 31
  · have e := (hf 31 Ob.first (by decide) (by decide) rfl).mp c31
    have ef : fpN f = 0 := by rw [c31]; rfl
    have ep : pcN o f = 0 := by rw [c31]; rfl
    rw [ef, ep, ptsC_first e]
    exact ⟨by omega, by omega, by omega, by omega, rfl⟩
  by_cases c32 : f = 32
  · have e := (hf 32 Ob.second (by decide) (by decide) rfl).mp c32
    have ef : fpN f = 0 := by rw [c32]; rfl
    have ep : pcN o f = 0 := by rw [c32]; rfl
    rw [ef, ep, ptsC_second e]
    exact ⟨by omega, by omega, by omega, by omega, rfl⟩
  by_cases c33 : f = 33
  · have e := (hf 33 Ob.pair (by decide) (by decide) rfl).mp c33
    have ef : fpN f = 0 := by rw [c33]; rfl
    have ep : pcN o f = 0 := by rw [c33]; rfl
    rw [ef, ep, ptsC_pair e]
    exact ⟨by omega, by omega, by omega, by omega, rfl⟩
  by_cases c34 : f = 34
  · have e := (hf 34 Ob.yes (by decide) (by decide) rfl).mp c34
    have ef : fpN f = 0 := by rw [c34]; rfl
    have ep : pcN o f = 0 := by rw [c34]; rfl
    rw [ef, ep, ptsC_yes e]
    exact ⟨by omega, by omega, by omega, by omega, rfl⟩
  by_cases c35 : f = 35
  · have e := (hf 35 Ob.no (by decide) (by decide) rfl).mp c35
    have ef : fpN f = 0 := by rw [c35]; rfl
    have ep : pcN o f = 0 := by rw [c35]; rfl
    rw [ef, ep, ptsC_no e]
    exact ⟨by omega, by omega, by omega, by omega, rfl⟩
  by_cases c36 : f = 36
  · have e := (hf 36 Ob.defS (by decide) (by decide) rfl).mp c36
    have ef : fpN f = 0 := by rw [c36]; rfl
    have ep : pcN o f = 0 := by rw [c36]; rfl
    rw [ef, ep, ptsC_defS e]
    exact ⟨by omega, by omega, by omega, by omega, rfl⟩
  by_cases c37 : f = 37
  · have e := (hf 37 Ob.thm (by decide) (by decide) rfl).mp c37
    have ef : fpN f = 0 := by rw [c37]; rfl
    have ep : pcN o f = 0 := by rw [c37]; rfl
    rw [ef, ep, ptsC_thm e]
    exact ⟨by omega, by omega, by omega, by omega, rfl⟩
  by_cases c38 : f = 38
  · have e := (hf 38 Ob.weak (by decide) (by decide) rfl).mp c38
    have ef : fpN f = 2 := by rw [c38]; rfl
    have ep : pcN o f = 1 := by rw [c38]; rfl
    rw [ef, ep, ptsC_weak e]
    rw [isForm_weak e, Bool.and_eq_true_iff, Bool.and_eq_true_iff, beq_iff_eq] at h
    have hn : L.length = 3 := by omega
    refine ⟨by omega, by omega, by omega, by omega, ?_⟩
    rw [it 2]
    match L, hn with
    | [x, y, z], _ => rfl
  by_cases c39 : f = 39
  · have e := (hf 39 Ob.cut (by decide) (by decide) rfl).mp c39
    have ef : fpN f = 2 := by rw [c39]; rfl
    have ep : pcN o f = 2 := by rw [c39]; rfl
    rw [ef, ep, ptsC_cut e]
    rw [isForm_cut e, Bool.and_eq_true_iff, beq_iff_eq] at h
    have hn : L.length = 4 := by omega
    refine ⟨by omega, by omega, by omega, by omega, ?_⟩
    rw [it 2, it 3]
    match L, hn with
    | [x, y, z, w], _ => rfl
  by_cases c40 : f = 40
  · have e := (hf 40 Ob.inst (by decide) (by decide) rfl).mp c40
    have ef : fpN f = 1 := by rw [c40]; rfl
    have ep : pcN o f = 1 := by rw [c40]; rfl
    rw [ef, ep, ptsC_inst e]
    have hn : 2 ≤ L.length := by omega
    refine ⟨by omega, by omega, by omega, by omega, ?_⟩
    rw [it 1]
    match L, hn with
    | x :: y :: l, _ => rfl
  by_cases c41 : f = 41
  · have e := (hf 41 Ob.swap (by decide) (by decide) rfl).mp c41
    have ef : fpN f = 1 := by rw [c41]; rfl
    have ep : pcN o f = 1 := by rw [c41]; rfl
    rw [ef, ep, ptsC_swap e]
    have hn : 2 ≤ L.length := by omega
    refine ⟨by omega, by omega, by omega, by omega, ?_⟩
    rw [it 1]
    match L, hn with
    | x :: y :: l, _ => rfl
  by_cases c42 : f = 42
  · have e := (hf 42 Ob.put (by decide) (by decide) rfl).mp c42
    have ef : fpN f = 1 := by rw [c42]; rfl
    have ep : pcN o f = 2 := by rw [c42]; rfl
    rw [ef, ep, ptsC_put e]
    rw [isForm_put e, beq_iff_eq] at h
    have hn : L.length = 3 := by omega
    refine ⟨by omega, by omega, by omega, by omega, ?_⟩
    rw [it 1, it 2]
    match L, hn with
    | [x, y, z], _ => rfl
  by_cases c43 : f = 43
  · have e := (hf 43 Ob.induct (by decide) (by decide) rfl).mp c43
    have ef : fpN f = 3 := by rw [c43]; rfl
    have ep : pcN o f = Ob.len o - 3 := by rw [c43]; rfl
    rw [ef, ep, ptsC_induct e]
    rw [isForm_induct e, Bool.and_eq_true_iff, Bool.and_eq_true_iff, Bool.and_eq_true_iff] at h
    have h3 := of_decide_eq_true h.1.1.1
    refine ⟨by omega, by omega, by omega, by omega, ?_⟩
    rw [hL, List.take_of_length_le (by rw [List.length_drop]; omega)]
  exfalso
  have m28 : ¬ Ob.lft o = Ob.taut := fun q => c28 ((hf 28 Ob.taut (by decide) (by decide) rfl).mpr q)
  have m29 : ¬ Ob.lft o = Ob.same := fun q => c29 ((hf 29 Ob.same (by decide) (by decide) rfl).mpr q)
  have m30 : ¬ Ob.lft o = Ob.value := fun q => c30 ((hf 30 Ob.value (by decide) (by decide) rfl).mpr q)
  have m31 : ¬ Ob.lft o = Ob.first := fun q => c31 ((hf 31 Ob.first (by decide) (by decide) rfl).mpr q)
  have m32 : ¬ Ob.lft o = Ob.second := fun q => c32 ((hf 32 Ob.second (by decide) (by decide) rfl).mpr q)
  have m33 : ¬ Ob.lft o = Ob.pair := fun q => c33 ((hf 33 Ob.pair (by decide) (by decide) rfl).mpr q)
  have m34 : ¬ Ob.lft o = Ob.yes := fun q => c34 ((hf 34 Ob.yes (by decide) (by decide) rfl).mpr q)
  have m35 : ¬ Ob.lft o = Ob.no := fun q => c35 ((hf 35 Ob.no (by decide) (by decide) rfl).mpr q)
  have m36 : ¬ Ob.lft o = Ob.defS := fun q => c36 ((hf 36 Ob.defS (by decide) (by decide) rfl).mpr q)
  have m37 : ¬ Ob.lft o = Ob.thm := fun q => c37 ((hf 37 Ob.thm (by decide) (by decide) rfl).mpr q)
  have m38 : ¬ Ob.lft o = Ob.weak := fun q => c38 ((hf 38 Ob.weak (by decide) (by decide) rfl).mpr q)
  have m39 : ¬ Ob.lft o = Ob.cut := fun q => c39 ((hf 39 Ob.cut (by decide) (by decide) rfl).mpr q)
  have m40 : ¬ Ob.lft o = Ob.inst := fun q => c40 ((hf 40 Ob.inst (by decide) (by decide) rfl).mpr q)
  have m41 : ¬ Ob.lft o = Ob.swap := fun q => c41 ((hf 41 Ob.swap (by decide) (by decide) rfl).mpr q)
  have m42 : ¬ Ob.lft o = Ob.put := fun q => c42 ((hf 42 Ob.put (by decide) (by decide) rfl).mpr q)
  have m43 : ¬ Ob.lft o = Ob.induct := fun q => c43 ((hf 43 Ob.induct (by decide) (by decide) rfl).mpr q)
  rw [isForm_else (fun q => q.elim m28 m29) m30 (fun q => q.elim m31 (fun q => q.elim m32 m33)) (fun q => q.elim m34 m35) m36 m37 m38 m39 m40 m41 m42 m43] at h
  cases h
theorem npr_list [DecidableEq Ob] : ∀ o : Ob, Ob.len o ≠ -1 → npr o = Ob.len o + nprL (Ob.toList o)
  | .var x, h => by
    rw [Ob.len_var] at h ⊢
    by_cases c : .var x = Ob.nil
    · rw [if_pos c]; rfl
    · rw [if_neg c] at h; exact absurd rfl h
  | .op a b, h => by
    have hb : Ob.len b ≠ -1 := fun q => h (by rw [Ob.len_pr, if_pos q])
    have ih := npr_list b hb
    rw [Ob.len_pr, if_neg hb]
    show 1 + npr a + npr b = Ob.len b + 1 + (npr a + nprL (Ob.toList b))
    omega
theorem nprL_app [DecidableEq Ob] : ∀ a b : List Ob, nprL (a ++ b) = nprL a + nprL b
  | [], b => by show nprL b = 0 + nprL b; omega
  | x :: a, b => by
    have := nprL_app a b
    show npr x + nprL (a ++ b) = npr x + nprL a + nprL b
    omega
theorem nprL_seg [DecidableEq Ob] (L : List Ob) (j k : Nat) : nprL ((L.drop j).take k) ≤ nprL L := by
  have h1 := nprL_app (L.take j) (L.drop j)
  have h2 := nprL_app ((L.drop j).take k) ((L.drop j).drop k)
  have p1 := nprL_pos (L.take j)
  have p2 := nprL_pos ((L.drop j).drop k)
  rw [List.take_append_drop] at h1 h2
  omega
theorem own_2 [DecidableEq Ob] {E : Sp.Env} {o : Ob} {f : Int} (hf : ∀ (c : Int) (s : Ob), 0 ≤ c → c < 44 → Ob.knownC[c.toNat]? = some s → (f = c ↔ Ob.lft o = s)) (h : Sp.isForm E o = true) : 2 ≤ own o := by
  have l2 := (isForm_says h).1
  obtain ⟨_, _, _, _, e⟩ := parts_seg hf h
  have h1 := npr_list o (by omega)
  have h2 := nprL_seg (Ob.toList o) (fpN f) (pcN o f).toNat
  unfold own
  rw [e]
  omega
theorem f8U_F [DecidableEq Ob] : ∀ k, f8Fn k = false → f8Un k = false := fun k h => by
  have h := f8K_F k h
  unfold f8Kn at h
  unfold f8Un
  simp only [Bool.or_eq_false_iff, decide_eq_false_iff_not] at h ⊢
  omega
theorem f8Ur_F [DecidableEq Ob] : ∀ k, f8Fr k = false → f8Ur k = false := fun k h => by
  have h := f8X_F k h
  unfold f8Xr at h
  unfold f8Ur
  simp only [Bool.or_eq_false_iff, decide_eq_false_iff_not] at h ⊢
  omega
theorem f8S_F [DecidableEq Ob] : ∀ k, f8Fn k = false → f8S k = false := fun k h => by
  unfold f8Fn f8Kn at h
  unfold f8S
  simp only [Bool.or_eq_false_iff, decide_eq_false_iff_not] at h ⊢
  omega
theorem f8T_F [DecidableEq Ob] : ∀ k, f8Fn k = false → f8T k = false := fun k h => f8T_Y k (f8Y_F k h)
theorem pf_succ [DecidableEq Ob] {α : Type} (E : Sp.Env) (d : Nat) (o : Ob) (K : List Ob → Sp.M α) : Sp.bd (Sp.pf E (d + 1) o) K = Sp.bd Sp.tick (fun _ => Sp.bd (if Sp.isForm E o then Sp.bd (Sp.pfParts (Sp.pf E d) (Sp.partsOf o)) (fun cs => Sp.bd (Sp.concl E o cs) (fun l => Sp.bounded l)) else Sp.fail) K) := by
  show Sp.bd (Sp.bd Sp.tick (fun _ => if Sp.isForm E o then Sp.bd (Sp.pfParts (Sp.pf E d) (Sp.partsOf o)) (fun cs => Sp.bd (Sp.concl E o cs) (fun l => Sp.bounded l)) else Sp.fail)) K = _
  rw [bd_assoc]
theorem pfParts_mono [DecidableEq Ob] {r : Ob → Sp.M (List Ob)} (hr : ∀ o, Mono (r o)) : ∀ l : List Ob, Mono (Sp.pfParts r l)
  | [] => Mono.ret
  | a :: l => Mono.bd (hr a) (fun _ => Mono.bd (pfParts_mono hr l) (fun _ => Mono.ret))
theorem pf_mono [DecidableEq Ob] {E : Sp.Env} : ∀ (d : Nat) (o : Ob), Mono (Sp.pf E d o)
  | 0, _ => Mono.fail
  | d + 1, o => Mono.bd Mono.tick (fun _ => Mono.ite (Mono.bd (pfParts_mono (pf_mono d) _) (fun _ => Mono.bd concl_mono (fun _ => Mono.bounded))) Mono.fail)
section
variable {α : Type} {δ : Nat} {B X : Int} {u v : iST} {E : Sp.Env} {R : EStateM.Result Unit Sp.Wk α} {K : List Ob → Sp.M α} {Q : iST → Prop}
theorem pc_open [DecidableEq Ob] {a n : Int} {d : Nat} (hP : PdK_d B δ f8Fn f8Fr u v R (Sp.bd (Sp.pf E (d + 1) (oc v a)) K)) (fit : Fit (B + 4001) R) (hX : B + 4001 ≤ X) (hKm : ∀ l, Mono (K l)) (hE : PrV v E) (hWf : WfE E) (hDW : Sp.DWf E) (h10 : v.1 10 = n) (n0 : 0 ≤ n) (n40 : n < 40) (va : VN v a) (hw : nwd false (oc v a) ≤ 1000)
    (good : ∀ w f, Sp.isForm E (oc v a) = true → 28 ≤ f → f ≤ 43 → 0 ≤ pcN (oc v a) f → (fpN f : Int) + pcN (oc v a) f ≤ Ob.len (oc v a) → Sp.partsOf (oc v a) = ((Ob.toList (oc v a)).drop (fpN f)).take (pcN (oc v a) f).toNat → 2 ≤ own (oc v a) → CG f8Fn f8Fr v w → w.1 32 = 0 → w.1 12 = v.1 12 → w.1 10 = n + 1 → w.1 11 = v.1 11 → w.1 31 = v.1 31 + 1 → (∀ i, i < 4 * n → w.2.1 53 i = v.2.1 53 i) → w.2.1 53 (4 * n + 0) = a → w.2.1 53 (4 * n + 1) = pcN (oc v a) f → w.2.1 53 (4 * n + 2) = (fpN f : Int) → w.2.1 53 (4 * n + 3) = v.1 11 → w.2.1 57 = v.2.1 57 → (∀ k, 46 ≤ k → k ≤ 49 → w.2.1 k = v.2.1 k) → PdK_d (B + (2 * own (oc v a) + 1)) 0 f8Fn f8Fr u w R (Sp.bd (Sp.pfParts (Sp.pf E d) (Sp.partsOf (oc v a))) (fun cs => Sp.bd (Sp.concl E (oc v a) cs) (fun l => Sp.bd (Sp.bounded l) K))) → Q w)
    (bad : ∀ w, w.2.1 57 = v.2.1 57 → (w.1 32 ≠ 0 ∨ w.1 12 ≠ -1) → CG f8Fn f8Fr v w → (∃ s, StB X w s ∧ R = .error () s) → Q w) : pv_3_open a Q v := by
  obtain ⟨hR, hTo, hFm⟩ := hE
  have hT := hR.1
  have h32 := hR.2.2.2.1
  have nn : npr (oc v a) + 1 ≤ 2 * nwd false (oc v a) := npr_nwd false (oc v a)
  have np := npr_pos (oc v a)
  have hpb : PrB E (Ob.toList (Ob.rgt (Ob.rgt (oc v a)))) := prB_nwd (by have := nwd_rr (oc v a); omega)
  have free := hP.free fit (Mono.bd (pf_mono _ _) hKm) h32
  obtain ⟨s, hls, eR⟩ := hP.live h32
  rw [pf_succ] at eR
  unfold pv_3_open
  intro v1 e1 _
  rw [h10] at e1
  refine ⟨fun _ => ?_, fun q => by omega⟩
  refine pc_stepS hT hls.2.1 (fun y gy y32 s0 ht hs y31 => ?_) (fun y gy y32 s0 ht hs y31 => ?_)
  rotate_left
  · refine ⟨fun q => absurd rfl q, fun _ => bad y (gy.2.2.2 57 rfl) (Or.inl y32) (gy.mono f8S_F f80_any) ⟨s, ⟨hs, by have h1 := hls.2.2; have h2 := gy.2.2.1 29 (by decide); omega⟩, ?_⟩⟩
    rw [eR]
    exact bind_err ht
  refine ⟨fun _ => ?_, fun q => absurd (by decide) q⟩
  have gyF : CG f8Fn f8Fr v y := gy.mono f8S_F f80_any
  have ya : y.1 32 = 0 := by rw [y32]; exact h32
  have hEy : PrV y E := PrV.up ⟨hR, hTo, hFm⟩ gyF ya
  have eo : oc y a = oc v a := gy.oc hT va.1 va.2
  have y29 : y.1 29 = v.1 29 := gy.2.2.1 29 (by decide)
  have Py : PdK_d B 0 f8Fn f8Fr u y R (Sp.bd (if Sp.isForm E (oc v a) then Sp.bd (Sp.pfParts (Sp.pf E d) (Sp.partsOf (oc v a))) (fun cs => Sp.bd (Sp.concl E (oc v a) cs) (fun l => Sp.bounded l)) else Sp.fail) K) := by
    refine ⟨hP.1.tr gyF, Or.inl ⟨(s.1 - 1, s.2), ⟨ya, hs, ?_⟩, ?_⟩⟩
    · rw [y29]
      exact hls.2.2
    · rw [eR]
      exact bind_ok ht
  have wrong : ∀ w, CG f8Un f8Ur y w → RdE w E → w.1 29 ≤ y.1 29 + (2 * npr (oc v a) + 1) → Sp.isForm E (oc v a) = false → pv_3_open_45 Q a w := fun w gw hRw w29 hno => by
    unfold pv_3_open_45
    intro z ez
    have gwF : CG f8Fn f8Fr y w := gw.mono f8U_F f8Ur_F
    have gz : CG f8Fn f8Fr w z := by rw [ez]; exact CG_I gw.1 (by decide) (by decide)
    have z12 : z.1 12 = a := by rw [ez, iIc_at]
    refine bad z (by rw [ez]; show w.2.1 57 = _; rw [gw.2.2.2 57 (by decide), gy.2.2.2 57 rfl]) (Or.inr (by rw [z12]; have := va.1; omega)) ((gyF.tr gwF).tr gz) ?_
    obtain ⟨s', hl', e'⟩ := Py.live ya
    rw [hno] at e'
    refine ⟨s', ⟨?_, by rw [ez, iIc_ne _ _ (by decide)]; have h1 := hl'.2.2; omega⟩, e'⟩
    have := hl'.2.1
    unfold StS StC at this ⊢
    rw [ez, iIc_ne _ _ (by decide), iIc_ne _ _ (by decide), gw.2.2.1 30 (by decide), gw.2.2.1 31 (by decide)]
    exact this
  refine pc_isForm (A := fun w => pv_3_open_45 Q a w) hEy.1 hEy.2.1 (fun D hD => (hWf D hD).1) hDW (fun D hD => (hWf D hD).2.2.2) (va.up gy) (by rw [eo]; omega) (by rw [eo, y29]; omega) (by rw [eo]; exact hpb) (fun w gw hRw w29 hno => wrong w gw hRw (by rw [eo] at w29; exact w29) (by rw [eo] at hno; exact hno)) (fun w gw hRw w29 hyes => ?_)
  rw [eo] at w29 hyes
  have gwF : CG f8Fn f8Fr y w := gw.mono f8U_F f8Ur_F
  have gvw := gyF.tr gwF
  have wa := hRw.2.2.2.1
  have hTw := hRw.1
  have eow : oc w a = oc v a := gvw.oc hT va.1 va.2
  have vaw := va.up gvw
  have Pw := Py.more (c := 2 * own (oc v a) + 1) gw f8U_F f8Ur_F w29 (gw.2.2.1 30 (by decide)) (gw.2.2.1 31 (by decide)) (by rw [wa, ya])
  rw [if_pos hyes, bd_assoc] at Pw
  simp only [bd_assoc] at Pw
  refine pc_left hTw vaw (fun f vf ef => ?_)
  rw [eow] at ef
  have kk : ∀ (c : Int) (s : Ob), 0 ≤ c → c < 44 → Ob.knownC[c.toNat]? = some s → (f = c ↔ Ob.lft (oc v a) = s) := fun c s h0 h4 hs => by
    have := katC hTw c h0 h4 hs vf.1 vf.2
    rw [ef] at this
    exact this
  obtain ⟨f28, f43, pc0, pcl, peq⟩ := parts_seg kk hyes
  have ow2 := own_2 kk hyes
  have w10 : w.1 10 = n := by rw [gw.2.2.1 10 (by decide), gy.2.2.1 10 (by decide)]; exact h10
  have w11 : w.1 11 = v.1 11 := by rw [gw.2.2.1 11 (by decide), gy.2.2.1 11 (by decide)]
  have w12 : w.1 12 = v.1 12 := by rw [gw.2.2.1 12 (by decide), gy.2.2.1 12 (by decide)]
  have w31 : w.1 31 = v.1 31 + 1 := by rw [gw.2.2.1 31 (by decide)]; exact y31
  have w53 : w.2.1 53 = v.2.1 53 := by rw [gw.2.2.2 53 (by decide), gy.2.2.2 53 rfl]
  intro _ v7 e7 _ _ _ v10 e10 _ _ z1 ez1 _ _ z2 ez2
  rw [w10] at e7 e10
  rw [e10] at ez1
  rw [e7] at ez2
  have n1 : ∀ j, j ≠ 10 → z1.1 j = w.1 j := fun j hj => by rw [ez1, iIc_ne _ _ hj]
  have n2 : z2.1 = z1.1 := by rw [ez2]; rfl
  have g1 : CG f8Fn f8Fr w z1 := by rw [ez1]; exact CG_I hTw (by decide) (by decide)
  have g2 : CG f8Fn f8Fr z1 z2 := by rw [ez2]; exact CG_A g1.1 (by omega) (by decide)
  have g12 := g1.tr g2
  have c2 : z2.2.2 = w.2.2 := by rw [ez2, ez1]; rfl
  have r2 : ∀ i, z2.2.1 53 i = if i = 4 * n + 0 then a else v.2.1 53 i := fun i => by
    rw [ez2, ez1, ← w53]; rfl
  have ro2 : ∀ j, j ≠ 53 → z2.2.1 j = w.2.1 j := fun j hj => by rw [ez2, iAc_ne _ _ _ hj, ez1]; rfl
  -- the rest of the frame
  have fin : ∀ y2 : Int, y2 = pcN (oc v a) f → pv_3_open_117 Q (f - 28) v7 v7 1 y2 z2 := by
    intro y2 ey2
    rw [e7]
    unfold pv_3_open_117
    intro _ _ z3 ez3 _ _ v13 e13 _ _ _ z4 ez4 v14 e14 _ _ _ z5 ez5
    have n3 : z3.1 = z1.1 := by rw [ez3]; exact n2
    have n4 : z4.1 = z1.1 := by rw [ez4]; exact n3
    have n5 : z5.1 = z1.1 := by rw [ez5]; exact n4
    rw [n4, n1 11 (by decide), w11] at e14
    have g3 : CG f8Fn f8Fr z2 z3 := by rw [ez3]; exact CG_A g2.1 (by omega) (by decide)
    have g4 : CG f8Fn f8Fr z3 z4 := by rw [ez4]; exact CG_A g3.1 (by omega) (by decide)
    have g5 : CG f8Fn f8Fr z4 z5 := by rw [ez5]; exact CG_A g4.1 (by omega) (by decide)
    have gw5 := ((g12.tr g3).tr g4).tr g5
    have r5 : ∀ i, z5.2.1 53 i = if i = 4 * n + 3 then v14 else if i = 4 * n + 2 then v13 else if i = 4 * n + 1 then y2 else z2.2.1 53 i := fun i => by
      rw [ez5, ez4, ez3]; rfl
    have ro5 : ∀ j, j ≠ 53 → z5.2.1 j = w.2.1 j := fun j hj => by
      rw [ez5, iAc_ne _ _ _ hj, ez4, iAc_ne _ _ _ hj, ez3, iAc_ne _ _ _ hj]
      exact ro2 j hj
    have e13' : v13 = (fpN f : Int) := by
      rw [e13]
      unfold fpN
      have : ∀ i : Nat, i < 16 → 0 ≤ yT_FIRST_PARTS.getD i 0 := by decide
      have := this (f - 28).toNat (by omega)
      omega
    have z510 : z5.1 10 = n + 1 := by rw [n5, ez1, iIc_at]
    refine good z5 f hyes f28 f43 pc0 pcl peq ow2 (gvw.tr gw5) (by rw [n5, n1 32 (by decide)]; exact wa) (by rw [n5, n1 12 (by decide)]; exact w12) z510 (by rw [n5, n1 11 (by decide)]; exact w11) (by rw [n5, n1 31 (by decide)]; exact w31) (fun i hi => ?_) ?_ ?_ ?_ ?_ ?_ (fun k h1 h2 => ?_) ?_
    · rw [r5, if_neg (by omega), if_neg (by omega), if_neg (by omega), r2, if_neg (by omega)]
    · rw [r5, if_neg (by omega), if_neg (by omega), if_neg (by omega), r2, if_pos rfl]
    · rw [r5, if_neg (by omega), if_neg (by omega), if_pos rfl]
      exact ey2
    · rw [r5, if_neg (by omega), if_pos rfl]
      exact e13'
    · rw [r5, if_pos rfl]
      exact e14
    · rw [ro5 57 (by decide), gw.2.2.2 57 (by decide), gy.2.2.2 57 rfl]
    · rw [ro5 k (by omega), gw.2.2.2 k (by unfold f8Ur; simp only [Bool.or_eq_false_iff, decide_eq_false_iff_not]; omega), gy.2.2.2 k rfl]
    · exact Pw.on gw5 (fun _ h => h) (fun _ h => h) (by rw [n5, n1 29 (by decide)]) (by rw [n5, n1 30 (by decide)]) (by rw [n5, n1 31 (by decide)]) (by rw [n5, n1 32 (by decide)])
  refine ⟨fun h15 => ?_, fun h15 => ?_⟩
  · intro _ _ v12 e12 _
    refine fin v12 ?_
    rw [e12]
    unfold pcN
    rw [if_neg (by omega)]
  · refine pc_lengthOf g2.1 (vaw.up g12) ?_
    intro _ _ v16 e16 _ _
    refine fin _ ?_
    rw [g12.oc hTw vaw.1 vaw.2, eow, e16]
    have e43 : f = 43 := by omega
    unfold pcN
    rw [if_pos e43, e43]
    rfl
end
