-- deps: 775
/-! the class: induct as a PROOF tells it -/
theorem pc_isWithin [DecidableEq Ob] {a c : Int} {Q : Int → iST → Prop} {u : iST} {E : Sp.Env} (hT : CT u) (hA : ClW u E a) (hC : ClW u E c) (hq : ∀ r, bq r ((clC u a).all (Ob.has (clC u c))) → Q r u) : pv_3_isWithin a c Q u := by
  unfold pv_3_isWithin
  refine pv_3_isWithin_2_i (fun x1 x2 x3 y => x1 = a ∧ x2 = c ∧ y = u ∧ 0 ≤ x3 ∧ ∀ i, 0 ≤ i → i < x3 → i < u.2.1 46 a → Ob.has (clC u c) (oc u (u.2.1 49 (30 * a + i))) = true) ?_ ⟨rfl, rfl, rfl, Int.le_refl _, fun i h1 h2 => by omega⟩
  rintro x1 x2 x3 y ⟨b1, b2, ey, x0, hi⟩
  rw [b1, b2, ey]
  unfold pv_3_isWithin_2b
  intro v1 e1 _
  refine ⟨fun q _ => hq 1 (bq1 (List.all_eq_true.mpr (fun o ho => ?_))), fun q => ?_⟩
  · obtain ⟨i, i0, i1, ei⟩ := clC_mem.mp ho
    rw [← ei]
    exact hi i i0 (by omega) i1
  intro _ _ v2 e2 _
  have nk := hA.2.1 x3 x0 (by omega)
  rw [← e2] at nk
  refine pc_placeOf hT hC nk.1 (fun hno => ⟨fun q2 => absurd rfl q2, fun _ _ => hq 0 (bq0 (bf_of (fun h => hno ?_)))⟩) (fun i i0 i1 ei => ⟨fun _ => ?_, fun q2 => absurd (show i ≠ -1 by omega) q2⟩)
  · have := List.all_eq_true.mp h (oc u v2) (clC_mem.mpr ⟨x3, x0, by omega, by rw [e2]⟩)
    exact Ob.has_iff.mp this
  · intro _
    refine ⟨rfl, rfl, rfl, by omega, fun j j0 j1 j2 => ?_⟩
    by_cases cj : j = x3
    · rw [cj, ← e2]
      exact Ob.has_iff.mpr (clC_mem.mpr ⟨i, i0, i1, by rw [ei]⟩)
    · exact hi j j0 (by omega) j2
theorem parts_cons [DecidableEq Ob] {α : Type} (D : Sp.Dfn) (vs : List Ob) (F : Ob) (p : List (Ob × Bool) × Ob) (L : List (List (Ob × Bool) × Ob)) (c : List Ob) (cs : List (List Ob)) (K : Unit → Sp.M α) : Sp.bd (Sp.indParts D vs F (p :: L) (c :: cs)) K = Sp.bd (Sp.rulersGo (Ob.lkD (D.params.zip vs)) p.1 []) (fun l => Sp.bd (Sp.hypsGo D vs F (Sp.callsIn p.2 D.name) l) (fun l => Sp.bd (Sp.bounded (Sp.putL l F)) (fun w => Sp.bd (if c.all (Ob.has w) then Sp.indParts D vs F L cs else Sp.fail) K))) := by
  show Sp.bd (Sp.bd (Sp.bd (Sp.rulersGo (Ob.lkD (D.params.zip vs)) p.1 []) (fun l => Sp.bd (Sp.hypsGo D vs F (Sp.callsIn p.2 D.name) l) (fun l => Sp.bounded (Sp.putL l F)))) (fun w => if c.all (Ob.has w) then Sp.indParts D vs F L cs else Sp.fail)) K = _
  simp only [bd_assoc]
theorem parts_nil [DecidableEq Ob] {D : Sp.Dfn} {vs : List Ob} {F : Ob} {L : List (List (Ob × Bool) × Ob)} {cs : List (List Ob)} (h : L = [] ∨ cs = []) : Sp.indParts D vs F L cs = Sp.ret () := by
  rcases h with h | h
  · rw [h]; unfold Sp.indParts; rfl
  · rw [h]
    cases L with
    | nil => unfold Sp.indParts; rfl
    | cons p L => unfold Sp.indParts; rfl
section
variable {α : Type} {δ : Nat} {B : Int} {n r : Nat → Bool} {u v : iST} {E : Sp.Env} {R : EStateM.Result Unit Sp.Wk α} {K : List Ob → Sp.M α} {m : Int}
theorem pc_isInduced [DecidableEq Ob] {p b : Int} {cs : List (List Ob)} {Q : Int → iST → Prop} (hP : PdK_d B δ n r u v R (Sp.bd (Sp.concl E (oc v p) cs) K)) (hn : ∀ k, n k = false → f8Kn k = false) (hr : ∀ k, r k = false → f8Xr k = false) (fit : Fit (B + own (oc v p)) R) (hKm : ∀ l, Mono (K l)) (hKd : ∀ l, Sp.bnd l = false → Die (K l)) (hR : RdE v E) (hWf : WfE E) (hC : ClW v E m ∧ clC v m = [] ∧ v.2.1 48 m = 0) (hS : SlC v E b cs) (hSm : ∀ i : Nat, i < cs.length → v.2.1 57 (b + (i : Int)) ≠ m ∧ v.2.1 57 (b + (i : Int)) ≠ 151) (m151 : m ≠ 151) (h11 : v.1 11 = b + (cs.length : Int)) (vp : VN v p) (hz : npr (oc v p) ≤ 100000) (hf : Sp.isForm E (oc v p) = true) (h : Ob.lft (oc v p) = Ob.induct)
    (hq1 : ∀ w, CcL E m v w → PdK_d (B + own (oc v p)) 1500 n r u w R (K (clC w m)) → Q 1 w) (hq0 : ∀ w, CG f8Kn f8Xr v w → w.1 32 = 0 → (∃ s, StB (B + own (oc v p)) w s ∧ R = .error () s) → Q 0 w) : pv_3_isInduced m p b Q v := by
  have hT := hR.1
  have h32 := hR.2.2.2.1
  have hP := hP.zero (δ' := 0) h32
  have np := npr_pos (oc v p)
  have ni1 := npr_item 1 (oc v p)
  have har : Sp.arOf E Ob.ifS = 3 := arOf_ifS E
  have nY : ∀ k, n k = false → f8Yn k = false := fun k h => f8Y_K k (hn k h)
  have rY : ∀ k, r k = false → f8Yr k = false := fun k h => f8Yr_X k (hr k h)
  have nX : ∀ k, f8Kn k = false → f8i k = false := fun k h => by
    unfold f8Kn at h
    unfold f8i
    simp only [Bool.or_eq_false_iff, decide_eq_false_iff_not] at h ⊢
    omega
  have nZ : ∀ k, f8Kn k = false → f8Zn k = false := fun k h => by
    unfold f8Kn at h
    unfold f8Zn
    simp only [Bool.or_eq_false_iff, decide_eq_false_iff_not] at h ⊢
    omega
  have free := hP.free fit (Mono.bd concl_mono hKm) h32
  have ow := own_induct h
  rw [isForm_induct h, Bool.and_eq_true_iff, Bool.and_eq_true_iff, Bool.and_eq_true_iff] at hf
  obtain ⟨⟨⟨hl3, hs1⟩, hask⟩, hdm⟩ := hf
  have hask := beq_iff_eq.mp hask
  obtain ⟨⟨hc1, hcn, hcv⟩, D, hD, hDm, hDl⟩ := indAsk_0.mp hask
  unfold pv_3_isInduced
  refine pc_termAt (k := 1) hR vp hz (by omega) (fun F v1 g1 hR1 v29 hor => ?_)
  obtain ⟨nF, eF⟩ : NdC v1 E F ∧ (Sp.rdAt E (oc v p) 1).getD Ob.nil = oc v1 F := by
    rcases hor with ⟨_, q2⟩ | ⟨q1, q2⟩
    · rw [q2] at hs1; cases hs1
    · exact ⟨q1, by rw [q2]; rfl⟩
  have v1a := hR1.2.2.2.1
  have hT1 := hR1.1
  have P1 := hP.more (c := own (oc v p)) g1 (fun k h => f8B_Y k (nY k h)) (fun k h => f8W_Y k (rY k h)) (by omega) (g1.2.2.1 30 (by decide)) (g1.2.2.1 31 (by decide)) (by rw [v1a, h32])
  rw [concl_induct h, hD, eF] at P1
  have P1 : PdK_d (B + own (oc v p)) 0 n r u v1 R (Sp.bd (Sp.bd (Sp.indParts D (Ob.toList (Ob.rgt (Ob.item (oc v p) 2))) (oc v1 F) (Sp.paths D.body) cs) (fun _ => Sp.ret [oc v1 F])) K) := P1
  rw [bd_assoc] at P1
  generalize hvs : Ob.toList (Ob.rgt (Ob.item (oc v p) 2)) = vs at P1 hcv
  have P1 : PdK_d (B + own (oc v p)) 0 n r u v1 R (Sp.bd (Sp.indParts D vs (oc v1 F) (Sp.paths D.body) cs) (fun _ => K [oc v1 F])) := P1
  generalize hB' : B + own (oc v p) = B' at fit hq1 hq0 P1
  have hvv : ∀ x, x ∈ vs → x.isVar = true := fun x hx => by
    unfold Sp.areVars at hcv
    exact List.all_eq_true.mp (Bool.and_eq_true_iff.mp hcv).1 x hx
  have hrl : (Ob.rgt (Ob.item (oc v p) 2)).len ≠ -1 := (len_rgt (len_isPr hc1)).mp hc1
  have evs : Ob.rgt (Ob.item (oc v p) 2) = Ob.ofList vs := by rw [← hvs]; exact (Ob.ofList_toList _ hrl).symm
  have hvl : vs.length = D.params.length := by
    have := Ob.len_toList hrl
    rw [hvs] at this
    omega
  have eo1 : oc v1 p = oc v p := g1.oc hT vp.1 vp.2
  refine pc_item hT1 (vp.up g1) (by decide) (fun I vI eI => ?_)
  have eI : oc v1 I = Ob.item (oc v1 p) 2 := eI
  rw [eo1] at eI
  refine pc_left hT1 vI (fun x3 vx3 ex3 => ?_)
  rw [eI] at ex3
  refine pc_functionOf hT1 hR1.2.1 vx3 (fun hno => ?_) (fun d d0 d1 ed hdd => ?_)
  · rw [ex3, hD] at hno; cases hno
  rw [ex3, hD] at hdd
  have hdd : D = dfnC v1 d := Option.some.inj hdd
  obtain ⟨hDmem, hDname⟩ := dfn_mem hD
  obtain ⟨wN, wP, wB, wZ⟩ := hWf D hDmem
  have D1 := hR1.2.1.2.2 d d0 d1
  obtain ⟨p1, p2, ⟨p3, p4, p5, p6⟩, p7, p8⟩ := D1
  have enm : oc v1 (v1.2.1 0 d) = D.name := by rw [hdd]; rfl
  have epar : Ob.toList (oc v1 (v1.2.1 1 d)) = D.params := by rw [hdd]; rfl
  have ebod : oc v1 (v1.2.1 3 d) = D.body := by rw [hdd]; rfl
  obtain ⟨nb1, nb2, nb3, _⟩ := isName_base wN
  have arn : Sp.arOf E D.name = (vs.length : Int) := by
    rw [hvl]
    exact arOf_def nb1 (by rw [hDname]; exact hD)
  have hlen : (vs.length : Int) = v1.2.1 2 d := by
    have := Ob.len_toList (o := oc v1 (v1.2.1 1 d)) (by omega)
    rw [epar] at this
    omega
  obtain ⟨pe, pw⟩ := paths_end har _ D.body (Nat.lt_succ_self _) wB
  refine ⟨fun _ => ?_, fun q => absurd (show d ≠ -1 by omega) q⟩
  intro _ _ x5 ex5 _
  rw [ex5]
  refine pc_goFirst hT1 har p7 (by rw [ebod]; exact wB) (by rw [ebod]; exact wZ) (fun y0 g0 c0 hPa => ?_)
  rw [ebod] at hPa
  have gK0 : CG f8Kn f8Xr v1 y0 := g0.mono (fun k h => f8h_i k (nX k h)) (fun k h => f8g_j k (f8j_X k h))
  have P2 := P1.on g0 (fun k h => f8h_i k (nX k (hn k h))) (fun k h => f8g_j k (f8j_X k (hr k h))) (g0.2.2.1 29 (by decide)) (g0.2.2.1 30 (by decide)) (g0.2.2.1 31 (by decide)) (g0.2.2.1 32 (by decide))
  have gv1 : CG f8Kn f8Xr v v1 := g1.mono (fun k h => f8B_Y k (f8Y_K k h)) (fun k h => f8W_Y k (f8Yr_X k h))
  have rows0 : ∀ k, 46 ≤ k → k ≤ 49 → y0.2.1 k = v1.2.1 k := fun k h1 h2 => g0.2.2.2 k (by unfold f8g; exact decide_eq_false (by omega))
  have h0l : ∀ j : Nat, j = 0 → b = b + (j : Int) := fun j hj => by omega
  refine pv_3_isInduced_67_i (fun x1 x4 x5 x6 x7 x8 y => x1 = m ∧ x4 = F ∧ x5 = I ∧ x6 = d ∧ CG f8Kn f8Xr v1 y ∧ ∃ (j : Nat) (L : List (List (Ob × Bool) × Ob)), x8 = b + (j : Int) ∧ ((x7 = 1 ∧ PaC y (Sp.arOf E) L) ∨ (x7 = 0 ∧ L = [])) ∧ (∀ q, q ∈ L → q ∈ Sp.paths D.body) ∧ (y.1 32 = 0 → OtC (fun j => j ≠ 151) v1 y) ∧ PdK_d B' 1500 n r u y R (Sp.bd (Sp.indParts D vs (oc v1 F) L (cs.drop j)) (fun _ => K [oc v1 F]))) ?_ ⟨rfl, rfl, rfl, rfl, gK0, 0, Sp.paths D.body, h0l 0 rfl, Or.inl ⟨rfl, hPa⟩, fun _ h => h, fun _ => OtC.of rows0, by rw [List.drop_zero]; exact P2.w⟩
  rintro x1 x4 x5 x6 x7 x8 y ⟨b1, b4, b5, b6, gy, j, L, b8, hL, hsub, hOt, hPy⟩
  rw [b1, b4, b5, b6, b8]
  have y11 : y.1 11 = b + (cs.length : Int) := by rw [gy.2.2.1 11 (by decide), g1.2.2.1 11 (by decide)]; exact h11
  obtain ⟨nFy, eFy⟩ := nF.up hT1 gy
  -- the end
  have fin : PdK_d B' 1500 n r u y R (K [oc v1 F]) → pv_3_isInduced_211 Q m F y := by
    intro Pe
    rw [← eFy] at Pe
    unfold pv_3_isInduced_211
    have hCy : y.1 32 = 0 → ClW y E m ∧ clC y m = [] := fun z => by
      obtain ⟨W1, L1⟩ := hC.1.up hT g1 (f8B_rows g1)
      obtain ⟨W2, L2, _⟩ := (hOt z).cl hT1 gy m151 W1
      exact ⟨W2, by rw [L2, L1]; exact hC.2.1⟩
    refine ca_one (E := E) Pe nY rY hKd hCy nFy.d (fun w c1 P3 => ?_)
    intro _
    refine hq1 w ⟨(gv1.tr gy).tr (c1.1.mono f8Y_K f8Yr_X), fun z => absurd h32 z, fun z => ?_⟩ P3
    have zy : y.1 32 = 0 := by
      by_cases q : y.1 32 = 0
      · exact q
      · exact absurd z (c1.2.2.1 q)
    obtain ⟨a1, a2, a3⟩ := c1.2.2.2 z
    refine ⟨(OtC.of (f8B_rows g1)).tr (((hOt zy).sub (fun j hj => hj.2)).tr (c1.2.1.sub (fun j hj => hj.1))), a1, a2, ?_⟩
    rw [a3, (hOt zy m m151).2.2.1, f8B_rows g1 48 (by decide) (by decide)]
  unfold pv_3_isInduced_67b
  intro v7 e7 _
  rw [y11] at e7
  refine ⟨fun q => fin ?_, fun q => ⟨fun q2 => fin ?_, fun q2 => ?_⟩⟩
  · rw [parts_nil (Or.inr (List.drop_eq_nil_of_le (by omega)))] at hPy
    exact hPy
  · rcases hL with ⟨q3, _⟩ | ⟨_, q3⟩
    · omega
    · rw [parts_nil (Or.inl q3)] at hPy
      exact hPy
  rcases hL with ⟨_, hPa⟩ | ⟨q3, _⟩
  rotate_left
  · exact absurd q3 q2
  intro v9 e9 _
  refine ⟨fun q3 => fin (hPy.any (by rw [← e9]; exact q3) _), fun q3 => ?_⟩
  have ya : y.1 32 = 0 := by rw [← e9]; exact Decidable.not_not.mp q3
  have hPy := hPy.zero (δ' := 0) ya
  have jl : j < cs.length := by omega
  cases L with
  | nil => obtain ⟨_, _, _, _, e⟩ := hPa; cases e
  | cons q L =>
    obtain ⟨pwr, pwe, pze⟩ := pw q (hsub q List.mem_cons_self)
    obtain ⟨cj, ecj⟩ : ∃ cj, cs[j]? = some cj := ⟨cs[j], List.getElem?_eq_getElem jl⟩
    rw [drop_of ecj, parts_cons] at hPy
    refine pc_clear1 (E := E) gy.1 (fun y1 k1 n1 W1 l1 r1 => ?_)
    have rC : ∀ k, r k = false → f8C k = false := fun k h => f8C_X k (hr k h)
    have Pa := hPy.on k1.1 (fun _ _ => rfl) rC (by rw [n1]) (by rw [n1]) (by rw [n1]) (by rw [n1])
    have gy1 : CG f8Kn f8Xr y y1 := k1.1.mono (fun _ _ => rfl) f8C_X
    have g11 : CG f8Kn f8Xr v1 y1 := gy.tr gy1
    have hPa1 := hPa.up gy.1 k1.1 (by rw [n1]) (by rw [n1]) (k1.1.2.2.2 31 (by decide)) (k1.1.2.2.2 32 (by decide))
    intro _ _ x11 e11 _
    rw [g11.2.2.2 1 (by decide)] at e11
    have vI1 := vI.up g11
    have eI1 : oc y1 I = Ob.item (oc v p) 2 := (g11.oc hT1 vI.1 vI.2).trans eI
    refine pc_right gy1.1 vI1 (fun x12 vx12 e12 => ?_)
    rw [eI1, evs] at e12
    obtain ⟨dn, d33, dS, dE, dL⟩ := hPa1
    have hPa1 : PaC y1 (Sp.arOf E) (q :: L) := ⟨dn, d33, dS, dE, dL⟩
    have ep1 : q.1 = preP y1 dn := by rw [(List.cons.inj dL).1]
    have o11 : oc y1 x11 = oc v1 (v1.2.1 1 d) := by rw [e11]; exact g11.oc hT1 p3.1 p3.2
    have vv11 : VN y1 x11 := by rw [e11]; exact p3.up g11
    have i11 : itN (oc y1 x11) = (vs.length : Int) := by rw [o11, itN_len (by omega)]; omega
    have i12 : itN (oc y1 x12) = (vs.length : Int) := by
      have : (oc y1 x12).len = (vs.length : Int) := by rw [e12, Ob.len_ofList]
      rw [itN_len (by omega), this]
    have Pa : PdK_d B' 0 n r u y1 R (Sp.bd (Sp.rulersGo (Ob.lkD (D.params.zip vs)) (preP y1 dn) (clC y1 151)) (fun l => Sp.bd (Sp.hypsGo D vs (oc v1 F) (Sp.callsIn q.2 D.name) l) (fun l => Sp.bd (Sp.bounded (Sp.putL l (oc v1 F))) (fun w => Sp.bd (if cj.all (Ob.has w) then Sp.indParts D vs (oc v1 F) L (cs.drop (j + 1)) else Sp.fail) (fun _ => K [oc v1 F]))))) := by
      rw [l1, ← ep1]
      exact Pa
    have mK : ∀ l : List Ob, Mono (Sp.bd (Sp.bounded (Sp.putL l (oc v1 F))) (fun w => Sp.bd (if cj.all (Ob.has w) then Sp.indParts D vs (oc v1 F) L (cs.drop (j + 1)) else Sp.fail) (fun _ => K [oc v1 F]))) := fun l => Mono.bd Mono.bounded (fun _ => Mono.bd (Mono.ite (indParts_mono _ _) Mono.fail) (fun _ => hKm _))
    have dK : ∀ l : List Ob, Sp.bnd l = false → Die (Sp.bd (Sp.bounded (Sp.putL l (oc v1 F))) (fun w => Sp.bd (if cj.all (Ob.has w) then Sp.indParts D vs (oc v1 F) L (cs.drop (j + 1)) else Sp.fail) (fun _ => K [oc v1 F]))) := fun l hb => Die.left (die_bounded (bndF hb)) _
    refine pc_addRulers (E := E) Pa nY rY fit (fun l => Mono.bd (hyps_mono _ _) mK) (fun l hb => hyps_die dK _ l hb) d33 dS (fun q' hq' => ?_) (arOf6 hR.2.1) (fun _ => ⟨W1, by rw [l1]; rfl⟩) vv11 vx12 (by rw [i11, i12]) (by rw [i11]; omega) (fun q' _ x _ => by rw [o11, epar, e12, Ob.toList_ofList]) (fun x hx => by
      rw [o11, epar, e12, Ob.toList_ofList]
      exact lkD_w (P := fun y => Ob.wt (Sp.arOf E) y ∧ y.sz ≤ 120) _ (fun pr hp => var_w (hvv pr.2 (List.of_mem_zip hp).2)) (var_w hx)) (fun y2 g2 y2d hC2 Pb => ?_)
    · rw [← ep1] at hq'
      exact ⟨(pwr q' hq').1, by have := (pwr q' hq').2; omega⟩
    have g22 : CG f8Kn f8Xr v1 y2 := g11.tr (g2.mono f8Y_K f8Yr_X)
    have hPa2 := hPa1.up gy1.1 g2 (g2.2.2.1 33 (by decide)) (g2.2.2.1 34 (by decide)) (g2.2.2.2 31 (by decide)) (g2.2.2.2 32 (by decide))
    have vI2 := vI.up g22
    have eI2 : oc y2 I = Ob.item (oc v p) 2 := (g22.oc hT1 vI.1 vI.2).trans eI
    refine pc_right g2.1 vI2 (fun x14 vx14 e14 => ?_)
    rw [eI2, evs] at e14
    obtain ⟨D12, dfn2⟩ := D1c.mono (d := d) ⟨p1, p2, ⟨p3, p4, p5, p6⟩, p7, p8⟩ hT1 g22 (fun k hk => g22.2.2.2 k (by unfold f8Xr; simp only [Bool.or_eq_false_iff, decide_eq_false_iff_not]; omega))
    have dfn2 : dfnC y2 d = D := by rw [dfn2, ← hdd]
    have nm2 : oc y2 (y2.2.1 0 d) = D.name := by rw [← dfn2]; rfl
    obtain ⟨nF2, eF2⟩ := nF.up hT1 g22
    have Pb : PdK_d B' 900 n r u y2 R (Sp.bd (Sp.hypsGo (dfnC y2 d) vs (oc y2 F) (Sp.callsIn q.2 (oc y2 (y2.2.1 0 d))) (clC y2 151)) (fun l => Sp.bd (Sp.bounded (Sp.putL l (oc v1 F))) (fun w => Sp.bd (if cj.all (Ob.has w) then Sp.indParts D vs (oc v1 F) L (cs.drop (j + 1)) else Sp.fail) (fun _ => K [oc v1 F])))) := by
      rw [dfn2, nm2, eF2]
      exact Pb
    refine pc_addHyps (E := E) Pb (fun k h => nZ k (hn k h)) (fun k h => f8Zr_X k (hr k h)) fit mK dK (arOf6 hR.2.1) hPa2 D12 nF2 vx14 e14 (by rw [g22.2.2.2 2 (by decide)]; exact hlen) hvv (fun cc hcc => ?_) (fun z => ⟨(hC2 z).2.1, (hC2 z).2.2.1⟩) (fun y3 g3 y3d hC3 Pc => ?_)
    · rw [nm2] at hcc ⊢
      exact call_args pwe (by omega) nb3 arn hcc
    have g33 : CG f8Kn f8Xr v1 y3 := g22.tr (g3.mono nZ f8Zr_X)
    obtain ⟨nF3, eF3⟩ := nF.up hT1 g33
    have Pc : PdK_d B' 1500 n r u y3 R ((fun l => Sp.bd (Sp.bounded l) (fun w => Sp.bd (if cj.all (Ob.has w) then Sp.indParts D vs (oc v1 F) L (cs.drop (j + 1)) else Sp.fail) (fun _ => K [oc v1 F]))) (Sp.putL (clC y3 151) (oc y3 F))) := by
      rw [eF3]
      exact Pc
    refine pc_joinP (E := E) (K := fun l => Sp.bd (Sp.bounded l) (fun w => Sp.bd (if cj.all (Ob.has w) then Sp.indParts D vs (oc v1 F) L (cs.drop (j + 1)) else Sp.fail) (fun _ => K [oc v1 F]))) Pc (fun k h => f8T_Y k (nY k h)) rC (fun z => ⟨(hC3 z).2.1, (hC3 z).2.2.1⟩) nF3.d (fun l hb => Die.left (die_bounded hb) _) (fun y4 g4 _ y4d hal4 Pd => ?_)
    have g44 : CG f8Kn f8Xr v1 y4 := g33.tr (g4.mono (fun k h => f8T_Y k (f8Y_K k h)) f8C_X)
    have hPa4 := (hPa2.up g2.1 g3 (g3.2.2.1 33 (by decide)) (g3.2.2.1 34 (by decide)) (g3.2.2.2 31 (by decide)) (g3.2.2.2 32 (by decide))).up g3.1 g4 (g4.2.2.1 33 (by decide)) (g4.2.2.1 34 (by decide)) (g4.2.2.2 31 (by decide)) (g4.2.2.2 32 (by decide))
    have ot4 : y4.1 32 = 0 → OtC (fun j => j ≠ 151) v1 y4 ∧ ClW y4 E 151 ∧ Sp.bnd (clC y4 151) = true := fun z => by
      obtain ⟨ck, a1, a2, _⟩ := hal4 z
      have z3 : y3.1 32 = 0 := by
        by_cases q : y3.1 32 = 0
        · exact q
        · exact absurd z (y4d q)
      have z2 : y2.1 32 = 0 := by
        by_cases q : y2.1 32 = 0
        · exact q
        · exact absurd z3 (y3d q)
      exact ⟨(hOt ya).tr ((k1.ot (fun j hj => hj)).tr ((hC2 z2).1.tr ((hC3 z3).1.tr (ck.ot (fun j hj => hj))))), a1, a2⟩
    have sub : ∀ q', q' ∈ L → q' ∈ Sp.paths D.body := fun q' h => hsub q' (List.mem_cons_of_mem _ h)
    -- on to the next PATH
    have next : PdK_d B' 1500 n r u y4 R (Sp.bd (Sp.indParts D vs (oc v1 F) L (cs.drop (j + 1))) (fun _ => K [oc v1 F])) → pv_3_isInduced_195 (fun x1 x4 x5 x6 x7 x8 y => x1 = m ∧ x4 = F ∧ x5 = I ∧ x6 = d ∧ CG f8Kn f8Xr v1 y ∧ ∃ (j : Nat) (L : List (List (Ob × Bool) × Ob)), x8 = b + (j : Int) ∧ ((x7 = 1 ∧ PaC y (Sp.arOf E) L) ∨ (x7 = 0 ∧ L = [])) ∧ (∀ q, q ∈ L → q ∈ Sp.paths D.body) ∧ (y.1 32 = 0 → OtC (fun j => j ≠ 151) v1 y) ∧ PdK_d B' 1500 n r u y R (Sp.bd (Sp.indParts D vs (oc v1 F) L (cs.drop j)) (fun _ => K [oc v1 F]))) Q m F I d (b + (j : Int)) y4 := by
      intro Pn
      have step : ∀ z, CG f8h f8g y4 z → CG f8Kn f8Xr v1 z ∧ (z.1 32 = 0 → OtC (fun j => j ≠ 151) v1 z) ∧ PdK_d B' 1500 n r u z R (Sp.bd (Sp.indParts D vs (oc v1 F) L (cs.drop (j + 1))) (fun _ => K [oc v1 F])) := fun z gz => by
        refine ⟨g44.tr (gz.mono (fun k h => f8h_i k (nX k h)) (fun k h => f8g_j k (f8j_X k h))), fun q4 => ?_, Pn.on gz (fun k h => f8h_i k (nX k (hn k h))) (fun k h => f8g_j k (f8j_X k (hr k h))) (gz.2.2.1 29 (by decide)) (gz.2.2.1 30 (by decide)) (gz.2.2.1 31 (by decide)) (gz.2.2.1 32 (by decide))⟩
        rw [gz.2.2.1 32 (by decide)] at q4
        exact (ot4 q4).1.tr (OtC.of (fun k h1 h2 => gz.2.2.2 k (by unfold f8g; exact decide_eq_false (by omega))))
      unfold pv_3_isInduced_195
      refine pc_goNext g4.1 har hPa4 (fun z e gz _ => ?_) (fun z gz _ hz' => ?_)
      · intro _
        obtain ⟨n1', n2', n3'⟩ := step z gz
        exact ⟨rfl, rfl, rfl, rfl, n1', j + 1, L, by omega, Or.inr ⟨rfl, e⟩, sub, n2', n3'⟩
      · intro _
        obtain ⟨n1', n2', n3'⟩ := step z gz
        exact ⟨rfl, rfl, rfl, rfl, n1', j + 1, L, by omega, Or.inl ⟨rfl, hz'⟩, sub, n2', n3'⟩
    intro v17 e17 _
    refine ⟨fun q4 => next (Pd.any (by rw [← e17]; exact q4) _), fun q4 => ?_⟩
    have y4a : y4.1 32 = 0 := by rw [← e17]; exact Decidable.not_not.mp q4
    obtain ⟨o4, W4, bb4⟩ := ot4 y4a
    have eb : Sp.bounded (clC y4 151) = Sp.ret (clC y4 151) := if_pos bb4
    rw [eb] at Pd
    have Pd : PdK_d B' 1500 n r u y4 R (Sp.bd (if cj.all (Ob.has (clC y4 151)) then Sp.indParts D vs (oc v1 F) L (cs.drop (j + 1)) else Sp.fail) (fun _ => K [oc v1 F])) := Pd
    intro _ _ v20 e20 _
    have r57 : y4.2.1 57 = v.2.1 57 := (g44.2.2.2 57 (by decide)).trans (g1.2.2.2 57 (by decide))
    rw [r57] at e20
    obtain ⟨s1, s2, s3, s4⟩ := hS j cj ecj
    have sm := hSm j jl
    rw [← e20] at s1 s2 s4 sm
    obtain ⟨t1, t2⟩ := s1.up hT g1 (f8B_rows g1)
    obtain ⟨u1, u2, _⟩ := o4.cl hT1 g44 sm.2 t1
    refine pc_isWithin g4.1 u1 W4 (fun r21 h21 => ⟨fun z21 => ?_, fun z21 _ => ?_⟩)
    · have := h21.t z21
      rw [u2, t2, s2] at this
      rw [if_pos this] at Pd
      exact next Pd
    · have := h21.f (Decidable.not_not.mp z21)
      rw [u2, t2, s2] at this
      rw [if_neg (by rw [this]; decide)] at Pd
      obtain ⟨s, hls, eR⟩ := Pd.live y4a
      exact hq0 y4 (gv1.tr g44) y4a ⟨s, ⟨hls.2.1, hls.2.2⟩, eR⟩
end
