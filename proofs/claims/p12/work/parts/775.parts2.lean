-- deps: 774
/-! the class: conclusions of parts, but for induct -/
def f8Kn (k : Nat) : Bool := decide (k = 29) || decide (32 ≤ k ∧ k ≤ 35) || decide (39 ≤ k ∧ k ≤ 41)
theorem f8Y_K [DecidableEq Ob] : ∀ k, f8Kn k = false → f8Yn k = false := fun k h => by
  unfold f8Kn at h
  unfold f8Yn
  simp only [Bool.or_eq_false_iff, decide_eq_false_iff_not] at h ⊢
  omega
/-- what a conclusion leaves -/
def CcL [DecidableEq Ob] (E : Sp.Env) (m : Int) (v w : iST) : Prop := CG f8Kn f8Xr v w ∧ (v.1 32 ≠ 0 → w.1 32 ≠ 0) ∧ (w.1 32 = 0 → OtC (fun j => j ≠ m ∧ j ≠ 151) v w ∧ ClW w E m ∧ Sp.bnd (clC w m) = true ∧ w.2.1 48 m = v.2.1 48 m)
theorem CcK.l [DecidableEq Ob] {E : Sp.Env} {m : Int} {v w : iST} (h : CcK E m v w) : CcL E m v w := ⟨h.1.mono f8Y_K f8Yr_X, h.2.2.1, fun z => ⟨h.2.1.sub (fun j hj => hj.1), (h.2.2.2 z).1, (h.2.2.2 z).2.1, (h.2.2.2 z).2.2⟩⟩
theorem CcL.pre [DecidableEq Ob] {E : Sp.Env} {m : Int} {n' r' : Nat → Bool} {u v w : iST} (g0 : CG n' r' u v) (hn : ∀ k, f8Kn k = false → n' k = false) (hr : ∀ k, f8Xr k = false → r' k = false) (rows : ∀ k, 46 ≤ k → k ≤ 49 → v.2.1 k = u.2.1 k) (h32 : u.1 32 ≠ 0 → v.1 32 ≠ 0) (g : CcL E m v w) : CcL E m u w := ⟨(g0.mono hn hr).tr g.1, fun z => g.2.1 (h32 z), fun z => by
  obtain ⟨o, a, b, c⟩ := g.2.2 z
  exact ⟨(OtC.of rows).tr o, a, b, by rw [c, rows 48 (by decide) (by decide)]⟩⟩
/-- the clauses of the parts -/
def SlC [DecidableEq Ob] (v : iST) (E : Sp.Env) (b : Int) (cs : List (List Ob)) : Prop := ∀ (i : Nat) (c : List Ob), cs[i]? = some c → ClW v E (v.2.1 57 (b + (i : Int))) ∧ clC v (v.2.1 57 (b + (i : Int))) = c ∧ Sp.bnd c = true ∧ v.2.1 48 (v.2.1 57 (b + (i : Int))) = 0
section
variable {α : Type} {δ : Nat} {B : Int} {n r : Nat → Bool} {u v : iST} {E : Sp.Env} {R : EStateM.Result Unit Sp.Wk α} {K : List Ob → Sp.M α} {m : Int}
theorem pc_concludeOfParts [DecidableEq Ob] {p b f : Int} {cs : List (List Ob)} {Q : Int → iST → Prop} (hP : PdK_d B δ n r u v R (Sp.bd (Sp.concl E (oc v p) cs) K)) (hn : ∀ k, n k = false → f8Kn k = false) (hr : ∀ k, r k = false → f8Xr k = false) (fit : Fit (B + own (oc v p)) R) (hKm : ∀ l, Mono (K l)) (hKd : ∀ l, Sp.bnd l = false → Die (K l)) (hR : RdE v E) (hC : ClW v E m ∧ clC v m = [] ∧ v.2.1 48 m = 0) (hS : SlC v E b cs) (hSm : ∀ i : Nat, i < cs.length → v.2.1 57 (b + (i : Int)) ≠ m) (hcl : cs.length = (Sp.partsOf (oc v p)).length) (vp : VN v p) (hz : npr (oc v p) ≤ 100000) (hpb : PrB E (Ob.toList (Ob.rgt (Ob.rgt (oc v p))))) (hf : Sp.isForm E (oc v p) = true) (vf : VN v f) (ef : oc v f = Ob.lft (oc v p)) (f38 : 38 ≤ f) (f43 : f ≠ 43)
    (hq1 : ∀ w, CcL E m v w → PdK_d (B + own (oc v p)) 1500 n r u w R (K (clC w m)) → Q 1 w) (hq0 : ∀ w, CG f8Kn f8Xr v w → w.1 32 = 0 → (∃ s, StB (B + own (oc v p)) w s ∧ R = .error () s) → Q 0 w) : pv_3_concludeOfParts m p b Q v := by
  have hT := hR.1
  have h32 := hR.2.2.2.1
  have hP := hP.zero (δ' := 0) h32
  have np := npr_pos (oc v p)
  have ni1 := npr_item 1 (oc v p)
  have nY : ∀ k, n k = false → f8Yn k = false := fun k h => f8Y_K k (hn k h)
  have rY : ∀ k, r k = false → f8Yr k = false := fun k h => f8Yr_X k (hr k h)
  have free := hP.free fit (Mono.bd concl_mono hKm) h32
  have kk : ∀ (c : Int) (s : Ob), 0 ≤ c → c < 44 → Ob.knownC[c.toNat]? = some s → (f = c ↔ Ob.lft (oc v p) = s) := fun c s h0 h4 hs => by
    have := katC hT c h0 h4 hs vf.1 vf.2
    rw [ef] at this
    exact this
  have hfr : FrW E (oc v p) f = true := by
    have fe := form_eq (E := E) kk
    rw [hf] at fe
    exact (Bool.and_eq_true_iff.mp fe.symm).1
  have owp := (form_cost (E := E) kk hfr).2
  have f42 : f ≤ 42 := by
    unfold FrW at hfr
    have := (decide_eq_true_eq.mp (Bool.and_eq_true_iff.mp hfr).1).2
    omega
  have hC' : v.1 32 = 0 → ClW v E m ∧ Sp.bnd (clC v m) = true := fun _ => ⟨hC.1, by rw [hC.2.1]; rfl⟩
  -- the parts
  have part : ∀ i : Nat, i < cs.length → ClW v E (v.2.1 57 (b + (i : Int))) ∧ clC v (v.2.1 57 (b + (i : Int))) = cs.getD i [] ∧ Sp.bnd (cs.getD i []) = true ∧ v.2.1 48 (v.2.1 57 (b + (i : Int))) = 0 := fun i hi => by
    have := hS i cs[i] (List.getElem?_eq_getElem hi)
    rw [List.getD_eq_getElem?_getD, List.getElem?_eq_getElem hi]
    exact this
  have b0 : b + ((0 : Nat) : Int) = b := by omega
  have b1' : b + ((1 : Nat) : Int) = b + 1 := by omega
  unfold pv_3_concludeOfParts
  refine pc_left hT vp (fun f' vf' ef' => ?_)
  have eff : f' = f := (hT.1.inj vf'.1 vf'.2 vf.1 vf.2).mp (ef'.trans ef.symm)
  rw [eff]
  refine ⟨fun q => ?_, fun n38 => ?_⟩
  · -- weak
    have h := (kk 38 Ob.weak (by decide) (by decide) rfl).mp q
    have ow := own_weak h
    have hl : cs.length = 1 := by
      rw [hcl]
      unfold Sp.partsOf
      rw [if_pos h]
      rfl
    obtain ⟨w0, l0, bb0, r0⟩ := part 0 (by omega)
    rw [b0] at w0 l0 r0
    have m0 := hSm 0 (by omega)
    rw [b0] at m0
    rw [isForm_weak h, Bool.and_eq_true_iff, Bool.and_eq_true_iff] at hf
    intro _ _ v2 e2 _
    rw [e2]
    refine pc_item hT vp (by decide) (fun t vt et => ?_)
    have et : oc v t = Ob.item (oc v p) 1 := et
    rw [concl_weak h] at hP
    have hP : PdK_d B 0 n r u v R (K (((Ob.toList (Ob.item (oc v p) 1)).filterMap (Ob.rdT (Sp.arOf E))).foldl Sp.putL (cs.getD 0 []))) := hP
    rw [← et, ← l0] at hP
    refine pc_concludeWeak hP nY rY (by rw [et]; exact fit.le (by omega)) hKm hKd hR m0 w0 (by rw [l0]; exact bb0) (by rw [r0, hC.2.2]) vt (by rw [et]; omega) (by rw [et]; exact hf.2) (fun w c1 P1 => ?_)
    intro _
    rw [et] at P1
    exact hq1 w c1.l (leP P1 (by omega)).w
  refine ⟨fun q => ?_, fun n39 => ?_⟩
  · -- cut
    have h := (kk 39 Ob.cut (by decide) (by decide) rfl).mp q
    have ow := own_cut h
    have hl : cs.length = 2 := by
      rw [hcl]
      unfold Sp.partsOf
      rw [if_neg (show ¬ Ob.lft (oc v p) = Ob.weak from fun q2 => absurd (h.symm.trans q2) (show Ob.cut ≠ Ob.weak from Ob.sym_ne (by decide))), if_pos h]
      rfl
    obtain ⟨w0, l0, bb0, r0⟩ := part 0 (by omega)
    obtain ⟨w1, l1, bb1, r1⟩ := part 1 (by omega)
    rw [b0] at w0 l0 r0
    rw [b1'] at w1 l1 r1
    have m0 := hSm 0 (by omega)
    have m1 := hSm 1 (by omega)
    rw [b0] at m0
    rw [b1'] at m1
    rw [isForm_cut h, Bool.and_eq_true_iff] at hf
    intro _ _ v6 e6 _ _ _ _ v8 e8 _
    rw [e6, e8]
    refine pc_termAt (k := 1) hR vp hz (by omega) (fun t w gw hRw w29 hor => ?_)
    obtain ⟨nt, et⟩ : NdC w E t ∧ (Sp.rdAt E (oc v p) 1).getD Ob.nil = oc w t := by
      rcases hor with ⟨_, q2⟩ | ⟨q1, q2⟩
      · rw [q2] at hf; cases hf.2
      · exact ⟨q1, by rw [q2]; rfl⟩
    have wa := hRw.2.2.2.1
    have P1 := hP.more (c := own (oc v p)) gw (fun k h => f8B_Y k (nY k h)) (fun k h => f8W_Y k (rY k h)) (by omega) (gw.2.2.1 30 (by decide)) (gw.2.2.1 31 (by decide)) (by rw [wa, h32])
    obtain ⟨W0, L0⟩ := w0.up hT gw (f8B_rows gw)
    obtain ⟨W1, L1⟩ := w1.up hT gw (f8B_rows gw)
    obtain ⟨Wm, Lm⟩ := hC.1.up hT gw (f8B_rows gw)
    rw [concl_cut h, et, ← l0, ← l1, ← L0, ← L1] at P1
    refine pc_isCut (E := E) P1 nY rY hKd wa ⟨Wm, by rw [Lm]; exact hC.2.1⟩ m0 m1 W0 W1 nt (fun w2 c2 P2 => ?_) (fun he => ?_)
    · intro _
      exact hq1 w2 (CcK.pre gw f8B_Y f8W_Y (f8B_rows gw) (fun z => absurd h32 z) c2).l P2.w
    · intro _
      exact hq0 w (gw.mono (fun k h => f8B_Y k (f8Y_K k h)) (fun k h => f8W_Y k (f8Yr_X k h))) wa he
  refine ⟨fun q => ?_, fun n40 => ?_⟩
  · -- inst
    have h := (kk 40 Ob.inst (by decide) (by decide) rfl).mp q
    have ow := own_inst h
    have hl : cs.length = 1 := by
      rw [hcl]
      unfold Sp.partsOf
      rw [if_neg (show ¬ Ob.lft (oc v p) = Ob.weak from fun q2 => absurd (h.symm.trans q2) (show Ob.inst ≠ Ob.weak from Ob.sym_ne (by decide))), if_neg (show ¬ Ob.lft (oc v p) = Ob.cut from fun q2 => absurd (h.symm.trans q2) (show Ob.inst ≠ Ob.cut from Ob.sym_ne (by decide))), if_pos (Or.inl h)]
      rfl
    obtain ⟨w0, l0, bb0, r0⟩ := part 0 (by omega)
    rw [b0] at w0 l0 r0
    have m0 := hSm 0 (by omega)
    rw [b0] at m0
    rw [isForm_inst h, Bool.and_eq_true_iff] at hf
    have hl2 : 2 ≤ Ob.len (oc v p) := of_decide_eq_true hf.1
    obtain ⟨ps0, eps0⟩ := Option.isSome_iff_exists.mp hf.2
    refine pc_right hT vp (fun t1 vt1 et1 => ?_)
    refine pc_right hT vt1 (fun t2 vt2 et2 => ?_)
    rw [et1] at et2
    have nr1 := npr_lft (oc v p)
    have nr2 := npr_lft (Ob.rgt (oc v p))
    have nl1 := npr_pos (Ob.lft (oc v p))
    have nl2 := npr_pos (Ob.lft (Ob.rgt (oc v p)))
    have cp := cpL_npr (Ob.rgt (Ob.rgt (oc v p)))
    refine pc_bindPairs hT hR.2.1 hR.2.2.1 (arOf6 hR.2.1) hR.2.2.2.2 vt2 (by rw [et2]; exact len_rr hl2) (by rw [et2]; exact hpb) (fun p' hp => ?_) h32 (by rw [et2]; omega) (fun w _ _ _ hno => ?_) (fun w ps gw wa w29 hBw eBw hsm hps => ?_)
    · rw [et2] at hp
      have h1 := npr_in _ _ hp
      have h2 := npr_item 1 p'
      have h3 : (Ob.item p' 1).sz ≤ npr (Ob.item p' 1) + 1 := (csM_npr false (Ob.item p' 1)).2
      omega
    · rw [et2, eps0] at hno; cases hno
    rw [et2] at w29 hsm
    have P1 := hP.more (c := own (oc v p)) gw nY (fun k h => f8p_Y k (rY k h)) (by omega) (gw.2.2.1 30 (by decide)) (gw.2.2.1 31 (by decide)) (by rw [wa, h32])
    obtain ⟨W0, L0⟩ := w0.up hT gw (f8p_rows gw)
    obtain ⟨Wm, Lm⟩ := hC.1.up hT gw (f8p_rows gw)
    intro _ _ v15 e15 _
    rw [gw.2.2.2 57 (by decide)] at e15
    rw [e15]
    rw [concl_inst h, hsm, ← l0, ← L0] at P1
    have P1 : PdK_d (B + own (oc v p)) 0 n r u w R (Sp.bd (Sp.fills (Sp.fill (Ob.lkD ps)) (clC w (v.2.1 57 b)) (clC w m)) K) := by
      rw [Lm, hC.2.1]
      exact P1
    refine pc_joinFill (E := E) P1 nY rY fit hKm hKd (arOf6 hR.2.1) (fun _ => ⟨Wm, by rw [Lm, hC.2.1]; rfl⟩) m0 W0 hBw eBw (fun x hx => lkD_w (P := fun y => Ob.wt (Sp.arOf E) y ∧ y.sz ≤ 120) _ (fun pr hp => (hps pr hp).2) (var_w hx)) (fun w2 c2 P2 => ?_)
    intro _
    exact hq1 w2 (CcK.pre gw (fun _ h => h) f8p_Y (f8p_rows gw) (fun z => absurd h32 z) c2).l (P2.w (by rw [L0, l0]; have := csN_bnd bb0; omega))
  -- swap and put
  have hsp : Ob.lft (oc v p) = Ob.swap ∨ Ob.lft (oc v p) = Ob.put := by
    have hc : f = 41 ∨ f = 42 := by omega
    rcases hc with c | c
    · exact Or.inl ((kk 41 Ob.swap (by decide) (by decide) rfl).mp c)
    · exact Or.inr ((kk 42 Ob.put (by decide) (by decide) rfl).mp c)
  have hcl1 : 1 ≤ cs.length ∧ (Ob.lft (oc v p) = Ob.put → 2 ≤ cs.length) := by
    rw [hcl]
    unfold Sp.partsOf
    rcases hsp with h | h
    · rw [if_neg (show ¬ Ob.lft (oc v p) = Ob.weak from fun q2 => absurd (h.symm.trans q2) (show Ob.swap ≠ Ob.weak from Ob.sym_ne (by decide))), if_neg (show ¬ Ob.lft (oc v p) = Ob.cut from fun q2 => absurd (h.symm.trans q2) (show Ob.swap ≠ Ob.cut from Ob.sym_ne (by decide))), if_pos (Or.inr h)]
      exact ⟨Nat.le_refl _, fun q2 => absurd (h.symm.trans q2) (show Ob.swap ≠ Ob.put from Ob.sym_ne (by decide))⟩
    · rw [if_neg (show ¬ Ob.lft (oc v p) = Ob.weak from fun q2 => absurd (h.symm.trans q2) (show Ob.put ≠ Ob.weak from Ob.sym_ne (by decide))), if_neg (show ¬ Ob.lft (oc v p) = Ob.cut from fun q2 => absurd (h.symm.trans q2) (show Ob.put ≠ Ob.cut from Ob.sym_ne (by decide))), if_neg (fun q2 => by
        rcases q2 with q2 | q2
        · exact absurd (h.symm.trans q2) (show Ob.put ≠ Ob.inst from Ob.sym_ne (by decide))
        · exact absurd (h.symm.trans q2) (show Ob.put ≠ Ob.swap from Ob.sym_ne (by decide))), if_pos h]
      exact ⟨by show 1 ≤ 2; decide, fun _ => Nat.le_refl _⟩
  obtain ⟨w0, l0, bb0, r0⟩ := part 0 (by omega)
  rw [b0] at w0 l0 r0
  have m0 := hSm 0 (by omega)
  rw [b0] at m0
  have hl0 := w0.1
  obtain ⟨s, hls, eR⟩ := hP.live h32
  intro _ _ v18 e18 _
  rw [e18]
  intro v19 e19 _
  have bad : Sp.concl E (oc v p) cs = Sp.fail → Q 0 v := fun h => hq0 v (CG.rf hT) h32 ⟨s, ⟨hls.2.1, by have := hls.2.2; omega⟩, by rw [eR, h]; rfl⟩
  have hlen := clC_len v (v.2.1 57 b)
  refine ⟨fun q => ?_, fun q => ?_⟩
  · -- no literal
    have hnil : cs.getD 0 [] = [] := by
      rw [← l0]
      exact List.eq_nil_of_length_eq_zero (by omega)
    unfold pv_3_concludeOfParts_148
    unfold pv_7_isCallOf
    refine ⟨fun _ _ => ⟨fun q2 => absurd rfl q2, fun _ _ => bad ?_⟩, fun q2 => absurd (by decide) q2⟩
    rcases hsp with h | h
    · rw [concl_swap h, hnil]
    · rw [concl_put h, hnil]
  intro _ _ v31 e31 _
  have ne := w0.2.1 0 (by omega) (by omega)
  rw [← e31] at ne
  have ecl : cs.getD 0 [] = oc v v31 :: (clC v (v.2.1 57 b)).drop 1 := by
    have := clC_drop (v := v) (f := v.2.1 57 b) (k := 0) (by show (0 : Int) < _; omega)
    rw [List.drop_zero, show 30 * v.2.1 57 b + ((0 : Nat) : Int) = 30 * v.2.1 57 b + 0 by omega, ← e31] at this
    rw [← l0]
    exact this
  have efil : (clC v (v.2.1 57 b)).filter (fun y => decide (y ≠ oc v v31)) = (clC v (v.2.1 57 b)).drop 1 := by
    have hnd := w0.2.2.1
    rw [l0, ecl] at hnd ⊢
    rw [List.filter_cons_of_neg (by rw [decide_eq_false (fun h => h rfl)]; decide)]
    exact filter_no (List.nodup_cons.mp hnd).1
  unfold pv_3_concludeOfParts_148
  refine pc_isCallK 4 hT ne.1 (by decide) (by decide) (o := Ob.equal) rfl (fun r20 h20 => ⟨fun z20 => ?_, fun z20 _ => bad ?_⟩)
  rotate_left
  · have hno := h20.f (Decidable.not_not.mp z20)
    rcases hsp with h | h
    · rw [concl_swap h, ecl]
      show (if Ob.isCallOf (oc v v31) Ob.equal = true then _ else _) = _
      rw [if_neg (by rw [hno]; decide)]
    · rw [concl_put h, ecl]
      show (if Ob.isCallOf (oc v v31) Ob.equal = true then _ else _) = _
      rw [if_neg (by rw [hno]; decide)]
  have heq := h20.t z20
  refine pc_left hT vp (fun f2 vf2 ef2 => ?_)
  have eff2 : f2 = f := (hT.1.inj vf2.1 vf2.2 vf.1 vf.2).mp (ef2.trans ef.symm)
  rw [eff2]
  -- the other literals
  have rest : ∀ (w0' w : iST), CG f8Kn f8Xr v w0' → (∀ k, 46 ≤ k → k ≤ 49 → w0'.2.1 k = v.2.1 k) → w0'.1 32 = 0 → CcK E m w0' w → PdK_d (B + own (oc v p)) 1500 n r u w R (K (((clC v (v.2.1 57 b)).drop 1).foldl Sp.putL (clC w m))) → pv_3_concludeOfParts_254 Q m (v.2.1 57 b) v31 w := by
    intro w0' w g0 rows0 w0a c1 P1
    have gT := g0.1
    obtain ⟨W0', L0'⟩ := w0.up hT g0 rows0
    obtain ⟨W0, L0, _⟩ := c1.2.1.cl gT c1.1 m0 W0'
    obtain ⟨n0', e0'⟩ := ne.up hT g0
    obtain ⟨nw, ew⟩ := n0'.up gT c1.1
    rw [← efil, ← L0', ← L0, ← e0', ← ew] at P1
    unfold pv_3_concludeOfParts_254
    refine pc_joinAllBut (E := E) P1 nY rY hKd (fun z => ⟨(c1.2.2.2 z).1, (c1.2.2.2 z).2.1⟩) m0 W0 nw.1 (fun w2 c2 P2 => ?_)
    intro _
    exact hq1 w2 (CcL.pre g0 (fun _ h => h) (fun _ h => h) rows0 (fun z => absurd h32 z) (c1.tr c2).l) P2
  have fitB : Fit B R := fit.le (by omega)
  refine ⟨fun z41 => ?_, fun z41 => ?_⟩
  · -- put
    have h : Ob.lft (oc v p) = Ob.put := (kk 42 Ob.put (by decide) (by decide) rfl).mp (by omega)
    obtain ⟨w1, l1, bb1, r1⟩ := part 1 (by have := hcl1.2 h; omega)
    rw [b1'] at w1 l1 r1
    have m1 := hSm 1 (by have := hcl1.2 h; omega)
    rw [b1'] at m1
    refine pc_it hT ne heq (Ob.sym_ne (by decide)) (arOf_equal E) (by decide) (by decide) (fun t1 nt1 et1 => ?_)
    have et1 : oc v t1 = Ob.item (oc v v31) 1 := et1
    intro y1 ey1
    have g1 : CG f8Kn f8Xr v y1 := by rw [ey1]; exact CG_I hT (by decide) (by decide)
    have c1 : ∀ k, oc y1 k = oc v k := fun k => oc_same (by rw [ey1]; rfl) k
    obtain ⟨ne1, ee1⟩ := ne.up hT g1
    refine pc_it g1.1 ne1 (by rw [ee1]; exact heq) (Ob.sym_ne (by decide)) (arOf_equal E) (by decide) (by decide) (fun t2 nt2 et2 => ?_)
    have et2 : oc y1 t2 = Ob.item (oc y1 v31) 2 := et2
    rw [ee1] at et2
    intro y2 ey2
    have g2 : CG f8Kn f8Xr y1 y2 := by rw [ey2]; exact CG_I g1.1 (by decide) (by decide)
    have g12 := g1.tr g2
    have r12 : y2.2 = v.2 := by rw [ey2, ey1]; rfl
    have n40' : y2.1 40 = t1 := by rw [ey2, iIc_ne _ _ (by decide), ey1, iIc_at]
    have n41' : y2.1 41 = t2 := by rw [ey2, iIc_at]
    have nO : ∀ k, k ≠ 40 → k ≠ 41 → y2.1 k = v.1 k := fun k h1 h2 => by rw [ey2, iIc_ne _ _ h2, ey1, iIc_ne _ _ h1]
    have y2a : y2.1 32 = 0 := by rw [nO 32 (by decide) (by decide)]; exact h32
    intro _ _ _ v25 e25 _
    rw [r12] at e25
    rw [e25]
    have rows2 : ∀ k, 46 ≤ k → k ≤ 49 → y2.2.1 k = v.2.1 k := fun k _ _ => by rw [r12]
    obtain ⟨W1, L1⟩ := w1.up hT g12 rows2
    obtain ⟨Wm, Lm⟩ := hC.1.up hT g12 rows2
    have P1 := hP.on g12 hn hr (nO 29 (by decide) (by decide)) (nO 30 (by decide) (by decide)) (nO 31 (by decide) (by decide)) (nO 32 (by decide) (by decide))
    rw [concl_put h, ecl] at P1
    have P1 : PdK_d B 0 n r u y2 R (Sp.bd (if Ob.isCallOf (oc v v31) Ob.equal = true then Sp.bd (Sp.fills (fun a => Sp.big (Ob.rpM (Ob.item (oc v v31) 1) (Ob.item (oc v v31) 2) false a) (Ob.csM false a).toNat) (cs.getD 1 []) []) (fun x => Sp.ret (((clC v (v.2.1 57 b)).drop 1).foldl Sp.putL x)) else Sp.fail) K) := P1
    rw [if_pos heq, bd_assoc, ← l1, ← L1] at P1
    have P1 : PdK_d B 0 n r u y2 R (Sp.bd (Sp.fills (fun a => Sp.big (Ob.rpM (Ob.item (oc v v31) 1) (Ob.item (oc v v31) 2) false a) (Ob.csM false a).toNat) (clC y2 (v.2.1 57 (b + 1))) (clC y2 m)) (fun x => K (((clC v (v.2.1 57 b)).drop 1).foldl Sp.putL x))) := by
      rw [Lm, hC.2.1]
      exact P1
    refine pc_joinPut (E := E) (K := fun x => K (((clC v (v.2.1 57 b)).drop 1).foldl Sp.putL x)) P1 nY rY fitB (fun _ => hKm _) (fun l hb => hKd _ (bndFold hb)) (arOf6 hR.2.1) (fun _ => ⟨Wm, by rw [Lm, hC.2.1]; rfl⟩) m1 W1 (by rw [n40']; exact nt1.1.up g12) (by rw [n40', g12.oc hT nt1.1.1 nt1.1.2]; exact et1) (by rw [n41']; exact (nt2.up g1.1 g2).1) (by rw [n41', (nt2.up g1.1 g2).2]; exact et2) (fun w c2 P2 => ?_)
    exact rest y2 w g12 rows2 y2a c2 ((leP P2 (by omega)).w (by rw [L1, l1]; have := csN_bnd bb1; omega))
  · -- swap
    have h : Ob.lft (oc v p) = Ob.swap := (kk 41 Ob.swap (by decide) (by decide) rfl).mp (Decidable.not_not.mp z41)
    refine pc_it hT ne heq (Ob.sym_ne (by decide)) (arOf_equal E) (by decide) (by decide) (fun t2 nt2 et2 => ?_)
    have et2 : oc v t2 = Ob.item (oc v v31) 2 := et2
    refine pc_it hT ne heq (Ob.sym_ne (by decide)) (arOf_equal E) (by decide) (by decide) (fun t1 nt1 et1 => ?_)
    have et1 : oc v t1 = Ob.item (oc v v31) 1 := et1
    rw [concl_swap h, ecl] at hP
    have hP : PdK_d B 0 n r u v R (Sp.bd (if Ob.isCallOf (oc v v31) Ob.equal = true then Sp.bd (Sp.mk2 Ob.equal (Ob.item (oc v v31) 2) (Ob.item (oc v v31) 1)) (fun x => Sp.ret (((clC v (v.2.1 57 b)).drop 1).foldl Sp.putL [x])) else Sp.fail) K) := hP
    rw [if_pos heq, bd_assoc, ← et1, ← et2] at hP
    refine ca_same (E := E) (K := fun l => K (((clC v (v.2.1 57 b)).drop 1).foldl Sp.putL l)) hP nY rY fitB (fun _ => hKm _) (fun l hb => hKd _ (bndFold hb)) (fun _ => ⟨hC.1, hC.2.1⟩) nt2.d nt1.d (fun w c2 P2 => ?_)
    exact rest v w (CG.rf hT) (fun _ _ _ => rfl) h32 c2 (leP P2 (by omega)).w
end
