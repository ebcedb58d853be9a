-- deps: 761
/-! the class: the hypotheses of an induction -/
/-- an instance that is not too big -/
theorem pc_fillV [DecidableEq Ob] {δ : Nat} {α : Type} {k B : Int} {n r : Nat → Bool} {Q : Int → iST → Prop} {u v : iST} {E : Sp.Env} {R : EStateM.Result Unit Sp.Wk α} {K : Ob → Sp.M α} {s : Ob → Ob} (hP : PdK_d B δ n r u v R (Sp.bd (Sp.fill s (oc v k)) K)) (hn : ∀ k, n k = false → f8B k = false) (hr : ∀ k, r k = false → f8W k = false) (fit : Fit B R) (hK : ∀ a, Mono (K a)) (h6 : ∀ f, Sp.arOf E f ≤ 6) (nk : NdC v E k) (hB : BnOk v) (hs : ∀ x, vr false (oc v k) x → s x = Ob.lkD (bdL v) x) (hlw : ∀ x, Ob.isVar x = true → Ob.wt (Sp.arOf E) (Ob.lkD (bdL v) x) ∧ (Ob.lkD (bdL v) x).sz ≤ 120) (h32 : v.1 32 = 0) (hz : (Ob.sbM (Ob.lkD (bdL v)) false (oc v k)).sz ≤ 120)
    (hq : ∀ t w, CG f8B f8W v w → w.1 32 = 0 → NdC w E t → PdK_d B 0 n r u w R (K (oc w t)) → Q t w) : pv_10_rebuilt k 1 Q v := by
  rw [fill_congr hs] at hP
  have hT := hP.1.1
  have hM : MuH v 1 (muF (bdL v)) := by
    intro x j P gx hj hp
    obtain ⟨b1, b2⟩ := hB.mono hT gx (gx.2.2.1 39 (by decide)) (gx.2.2.2 35 (by decide)) (gx.2.2.2 36 (by decide))
    refine ⟨fun _ => pc_meaningF gx.1 b1 hj (fun r hr => hp r (by rw [b2] at hr; exact hr)), fun z => by cases z⟩
  have hsz := nk.2.2
  have hdp := dp_sz false (oc v k)
  have hsz' : Ob.szM false (oc v k) ≤ 120 := hsz
  have hcs := (csM_it false (oc v k)).1
  have hcs2 := csM_le_d (oc v k)
  have hz' : Ob.szM false (Ob.sbM (Ob.lkD (bdL v)) false (oc v k)) ≤ 120 := hz
  have hwt := (sb_wt (s := Ob.lkD (bdL v)) false _ nk.2.1 (fun x hx => (hlw x hx.2).1)).1
  obtain ⟨r1, r2⟩ := rbF_eq (l := bdL v) (fun x hx => (hlw x hx).2) false (oc v k) nk.2.1
  by_cases hx : Ob.sbM (Ob.lkD (bdL v)) false (oc v k) = oc v k ∨ Ob.has [] (Ob.sbM (Ob.lkD (bdL v)) false (oc v k)) = true
  · have hid : Ob.sbM (Ob.lkD (bdL v)) false (oc v k) = oc v k := by
      rcases hx with q | q
      · exact q
      · cases q
    have eT : rbM (muF (bdL v)) false (oc v k) = some (oc v k) := by
      cases e : rbM (muF (bdL v)) false (oc v k) with
      | none => have := r2 e; omega
      | some y => rw [(r1 y e).1, hid]
    refine pc_rebuiltX hT hM nk.1 (ok6_F h6 false _ nk.2.1) (by omega) (by omega) eT ⟨k, nk.1, rfl⟩ (fun t w gw wn wc vt et => ?_)
    have w32 : w.1 32 = 0 := by rw [wn]; exact h32
    refine hq t w gw w32 ⟨vt, by rw [et]; exact nk.2.1, by rw [et]; exact nk.2.2⟩ ((PdK_d.step (o := oc w t) hP gw hn hr (fun z => absurd h32 z) (by rw [wn]; omega) (fun s hls => ⟨fun z => ?_, fun z => absurd w32 z⟩)).zero w32)
    refine ⟨(s.1, s.2 + 0), by rw [et]; unfold Sp.fill Sp.fillU; rw [if_pos hx, hid]; exact big_ok nk.2.2, rfl, ?_⟩
    have := hls.2.2
    show w.1 29 ≤ B + ((s.2 + 0 : Nat) : Int)
    rw [wn]
    omega
  have hroom : v.1 32 = 0 → v.1 29 + Ob.csM false (oc v k) ≤ 160000 := fun z => by
    have := PdK_d.room hP fit hK z
    rw [if_neg hx] at this
    omega
  refine pc_rebuiltG hT hM (fun _ o => by unfold muF; split; (intro z; cases z); split <;> (intro z; cases z)) nk.1 (ok6_F h6 false _ nk.2.1) (by omega) (by omega) hroom (fun t w gw w29 wd hor => ?_)
  rcases hor with ⟨ht, hn1, hw1, _⟩ | ⟨ht, hs1⟩
  · have := r2 (hn1 h32)
    omega
  · obtain ⟨a1, a2⟩ := hs1 h32
    have b1 := (r1 _ a2).1
    refine hq t w gw a1 ⟨ht, by rw [b1]; exact hwt, by rw [b1]; exact hz⟩ ((PdK_d.step (o := oc w t) hP gw hn hr wd (by omega) (fun s hls => ⟨fun z => ?_, fun z => absurd a1 z⟩)).zero a1)
    refine ⟨(s.1, s.2 + (Ob.csM false (oc v k)).toNat), by rw [b1]; unfold Sp.fill Sp.fillU; rw [if_neg hx]; exact big_ok hz, rfl, ?_⟩
    have := hls.2.2
    show w.1 29 ≤ B + ((s.2 + (Ob.csM false (oc v k)).toNat : Nat) : Int)
    omega
def f8Zn (k : Nat) : Bool := decide (k = 29) || decide (k = 32) || decide (k = 35) || decide (k = 39)
def f8Zr (k : Nat) : Bool := decide (27 ≤ k ∧ k ≤ 30) || decide (33 ≤ k ∧ k ≤ 43) || decide (46 ≤ k ∧ k ≤ 49)
theorem f8Y_Z [DecidableEq Ob] : ∀ k, f8Zn k = false → f8Yn k = false := fun k h => by
  unfold f8Zn at h
  unfold f8Yn
  simp only [Bool.or_eq_false_iff, decide_eq_false_iff_not] at h ⊢
  omega
theorem f8Yr_Z [DecidableEq Ob] : ∀ k, f8Zr k = false → f8Yr k = false := fun k h => by
  unfold f8Zr at h
  unfold f8Yr
  simp only [Bool.or_eq_false_iff, decide_eq_false_iff_not] at h ⊢
  omega
theorem f8n_Z [DecidableEq Ob] : ∀ k, f8Zn k = false → f8n k = false := fun k h => by
  unfold f8Zn at h
  unfold f8n
  simp only [Bool.or_eq_false_iff, decide_eq_false_iff_not] at h ⊢
  omega
theorem f8o_Z [DecidableEq Ob] : ∀ k, f8Zr k = false → f8o k = false := fun k h => by
  unfold f8Zr at h
  unfold f8o f8q
  simp only [Bool.or_eq_false_iff, decide_eq_false_iff_not] at h ⊢
  omega
theorem f8Z_X [DecidableEq Ob] : ∀ k, f8Xn k = false → f8Zn k = false := fun k h => by
  unfold f8Xn at h
  unfold f8Zn
  simp only [Bool.or_eq_false_iff, decide_eq_false_iff_not] at h ⊢
  omega
theorem f8Zr_X [DecidableEq Ob] : ∀ k, f8Xr k = false → f8Zr k = false := fun k h => by
  unfold f8Xr at h
  unfold f8Zr
  simp only [Bool.or_eq_false_iff, decide_eq_false_iff_not] at h ⊢
  omega
theorem NoT.rwArgs [DecidableEq Ob] {f : Ob → Sp.M Ob} (hf : ∀ o, NoT (f o)) : ∀ l : List Ob, NoT (Sp.rwArgs f l)
  | [] => NoT.ret
  | a :: l => NoT.bd (hf a) (fun _ => NoT.bd (NoT.rwArgs hf l) (fun _ => NoT.ret))
theorem rwArgs_cons [DecidableEq Ob] {α : Type} (f : Ob → Sp.M Ob) (a : Ob) (l : List Ob) (K : List Ob → Sp.M α) : Sp.bd (Sp.rwArgs f (a :: l)) K = Sp.bd (f a) (fun v => Sp.bd (Sp.rwArgs f l) (fun vs => K (v :: vs))) := by
  show Sp.bd (Sp.bd (f a) (fun v => Sp.bd (Sp.rwArgs f l) (fun vs => Sp.ret (v :: vs)))) K = _
  simp only [bd_assoc]
  rfl
theorem hyps_cons [DecidableEq Ob] {α : Type} (D : Sp.Dfn) (vs : List Ob) (F c : Ob) (cs l : List Ob) (K : List Ob → Sp.M α) : Sp.bd (Sp.hypsGo D vs F (c :: cs) l) K = Sp.bd (Sp.rwArgs (fun a => Sp.fill (Ob.lkD (D.params.zip vs)) a) (Ob.toList (Ob.rgt c))) (fun as => Sp.bd (Sp.fill (Ob.lkD (vs.zip as)) F) (fun x => Sp.bd (Sp.mkNot x) (fun y => Sp.bd (Sp.hypsGo D vs F cs (Sp.putL l y)) K))) := by
  show Sp.bd (Sp.bd (Sp.rwArgs (fun a => Sp.fill (Ob.lkD (D.params.zip vs)) a) (Ob.toList (Ob.rgt c))) (fun as => Sp.bd (Sp.fill (Ob.lkD (vs.zip as)) F) (fun x => Sp.bd (Sp.mkNot x) (fun y => Sp.hypsGo D vs F cs (Sp.putL l y))))) K = _
  simp only [bd_assoc]
theorem hyps_die [DecidableEq Ob] {α : Type} {D : Sp.Dfn} {vs : List Ob} {F : Ob} {K : List Ob → Sp.M α} (hK : ∀ l, Sp.bnd l = false → Die (K l)) : ∀ (cs l : List Ob), Sp.bnd l = false → Die (Sp.bd (Sp.hypsGo D vs F cs l) K)
  | [], l, h => fun s => hK l h s
  | c :: cs, l, h => by
    rw [hyps_cons]
    exact Die.bd (NoT.rwArgs (fun _ => NoT.big) _) (fun _ => Die.bd NoT.big (fun _ => Die.bd NoT.not (fun _ => hyps_die hK cs _ (bndF h))))
theorem hyps_mono [DecidableEq Ob] {D : Sp.Dfn} {vs : List Ob} {F : Ob} : ∀ (cs l : List Ob), Mono (Sp.hypsGo D vs F cs l)
  | [], _ => Mono.ret
  | c :: cs, l => Mono.bd (rwArgs_mono (fun _ => Mono.big) _) (fun _ => Mono.bd Mono.big (fun _ => Mono.bd Mono.not (fun _ => hyps_mono cs _)))
theorem zip_take [DecidableEq Ob] {α β : Type} : ∀ (a : List α) (b : List β) (i : Nat) (x : α) (y : β), a[i]? = some x → b[i]? = some y → (a.take (i + 1)).zip (b.take (i + 1)) = (a.take i).zip (b.take i) ++ [(x, y)]
  | [], _, _, _, _, h, _ => by cases h
  | _ :: _, [], _, _, _, _, h => by cases h
  | a :: l, b :: m, 0, x, y, h, g => by
    have h : some a = some x := h
    have g : some b = some y := g
    rw [← Option.some.inj h, ← Option.some.inj g]
    rfl
  | a :: l, b :: m, i + 1, x, y, h, g => by
    have ih := zip_take l m i x y h g
    show (a, b) :: (l.take (i + 1)).zip (m.take (i + 1)) = (a, b) :: ((l.take i).zip (m.take i) ++ [(x, y)])
    rw [ih]
theorem pc_addHyps [DecidableEq Ob] {δ : Nat} {α : Type} {c F d vl B : Int} {n r : Nat → Bool} {Q : iST → Prop} {u v : iST} {E : Sp.Env} {ar : Ob → Int} {R : EStateM.Result Unit Sp.Wk α} {K : List Ob → Sp.M α} {vs : List Ob} {p : List (Ob × Bool) × Ob} {L : List (List (Ob × Bool) × Ob)} (hP : PdK_d B δ n r u v R (Sp.bd (Sp.hypsGo (dfnC v d) vs (oc v F) (Sp.callsIn p.2 (oc v (v.2.1 0 d))) (clC v c)) K)) (hn : ∀ k, n k = false → f8Zn k = false) (hr : ∀ k, r k = false → f8Zr k = false) (fit : Fit B R) (hK : ∀ a, Mono (K a)) (hKd : ∀ l, Sp.bnd l = false → Die (K l)) (h6 : ∀ f, Sp.arOf E f ≤ 6)
    (hPa : PaC v ar (p :: L)) (hD : D1c v d) (hF : NdC v E F) (vv : VN v vl) (ev : oc v vl = Ob.ofList vs) (hlen : (vs.length : Int) = v.2.1 2 d) (hv : ∀ x, x ∈ vs → x.isVar = true)
    (hRc : ∀ c, c ∈ Sp.callsIn p.2 (oc v (v.2.1 0 d)) → ∃ l, c = .pr (oc v (v.2.1 0 d)) (Ob.ofList l) ∧ l.length = vs.length ∧ ∀ a, a ∈ l → Ob.wt (Sp.arOf E) a ∧ a.sz ≤ 120) (hC : v.1 32 = 0 → ClW v E c ∧ Sp.bnd (clC v c) = true)
    (hq : ∀ w, CG f8Zn f8Zr v w → (v.1 32 ≠ 0 → w.1 32 ≠ 0) → (w.1 32 = 0 → CmC E c v w) → PdK_d B (δ + 600) n r u w R (K (clC w c)) → Q w) : pv_8_addInductionHypotheses c F d vl Q v := by
  have hT := hP.1.1
  obtain ⟨p1, p2, ⟨p3, p4, p5, p6⟩, p7, p8⟩ := hD
  have nY : ∀ k, n k = false → f8Yn k = false := fun k h => f8Y_Z k (hn k h)
  have rY : ∀ k, r k = false → f8Yr k = false := fun k h => f8Yr_Z k (hr k h)
  have nB : ∀ k, n k = false → f8B k = false := fun k h => f8B_Y k (nY k h)
  have rW : ∀ k, r k = false → f8W k = false := fun k h => f8W_Y k (rY k h)
  generalize hxs : (dfnC v d).params = xs
  have exs : Ob.toList (oc v (v.2.1 1 d)) = xs := hxs
  have lxs : xs.length = vs.length := by
    have := Ob.len_toList (o := oc v (v.2.1 1 d)) (by omega)
    rw [exs] at this
    omega
  have ix : itN (oc v (v.2.1 1 d)) = (vs.length : Int) := by rw [itN_len (by omega)]; omega
  have iv : itN (oc v vl) = (vs.length : Int) := by
    have : (oc v vl).len = (vs.length : Int) := by rw [ev, Ob.len_ofList]
    rw [itN_len (by omega), this]
  unfold pv_8_addInductionHypotheses
  intro _ _ v1 e1 _
  rw [e1]
  refine pc_listCalls hT hPa p1 (fun y1 g1 c1 hCa => ?_)
  have P1 := hP.on g1 (fun k h => f8n_Z k (hn k h)) (fun k h => f8o_Z k (hr k h)) (g1.2.2.1 29 (by decide)) (g1.2.2.1 30 (by decide)) (g1.2.2.1 31 (by decide)) (g1.2.2.1 32 (by decide))
  have g1Z : CG f8Zn f8Zr v y1 := g1.mono f8n_Z f8o_Z
  have rows1 : ∀ k, 46 ≤ k → k ≤ 49 → y1.2.1 k = v.2.1 k := fun k h1 h2 => g1.2.2.2 k (by unfold f8o f8q; simp only [Bool.or_eq_false_iff, decide_eq_false_iff_not]; omega)
  have l1 : clC y1 c = clC v c := by
    unfold clC
    rw [rows1 46 (by decide) (by decide), rows1 49 (by decide) (by decide)]
    unfold lsC
    exact List.map_congr_left (fun i _ => oc_same c1 _)
  have z1 : y1.1 32 = v.1 32 := g1.2.2.1 32 (by decide)
  generalize hcs : Sp.callsIn p.2 (oc v (v.2.1 0 d)) = cs at P1 hCa hRc
  refine pv_8_addInductionHypotheses_16_i (fun x1 x2 x3 x4 x5 y => x1 = c ∧ x2 = F ∧ x3 = d ∧ x4 = vl ∧ ∃ k : Nat, x5 = (k : Int) ∧ k ≤ cs.length ∧ CG f8Zn f8Zr v y ∧ (v.1 32 ≠ 0 → y.1 32 ≠ 0) ∧ CaC y cs ∧ (y.1 32 = 0 → CmC E c v y) ∧ PdK_d B (δ + 600) n r u y R (Sp.bd (Sp.hypsGo (dfnC v d) vs (oc v F) (cs.drop k) (clC y c)) K)) ?_ ⟨rfl, rfl, rfl, rfl, 0, rfl, Nat.zero_le _, g1Z, fun z => by rw [z1]; exact z, hCa, fun z => ?_, by rw [List.drop_zero, l1]; exact P1.w⟩
  rotate_left
  · rw [z1] at z
    obtain ⟨hW, hb⟩ := hC z
    exact ⟨OtC.of rows1, (hW.up hT g1 rows1).1, by rw [l1]; exact hb, by rw [rows1 48 (by decide) (by decide)]⟩
  rintro x1 x2 x3 x4 x5 y ⟨b1, b2, b3, b4, k, b5, hk, gy, yd, hCy, hCm, hPy⟩
  rw [b1, b2, b3, b4, b5]
  unfold pv_8_addInductionHypotheses_16b
  intro v3 e3 _
  rw [hCy.1] at e3
  refine ⟨fun h => ?_, fun h => ?_⟩
  · rw [List.drop_eq_nil_of_le (by omega)] at hPy
    exact hq y gy yd hCm hPy
  intro v4 e4 _
  refine ⟨fun z => hq y gy yd hCm (hPy.any (by rw [← e4]; exact z) _), fun z => ?_⟩
  have ya : y.1 32 = 0 := by rw [← e4]; exact Decidable.not_not.mp z
  have hPy := hPy.zero (δ' := 0) ya
  obtain ⟨ho, hW, hb, h48⟩ := hCm ya
  have kl : k < cs.length := by omega
  obtain ⟨kc1, kc2⟩ := hCy.get kl
  obtain ⟨la, elc, ell, hla⟩ := hRc _ (List.mem_of_getElem? kc2)
  rw [drop_of kc2, hyps_cons, elc] at hPy
  have erg : Ob.toList (Ob.rgt (Ob.pr (oc v (v.2.1 0 d)) (Ob.ofList la))) = la := Ob.toList_ofList la
  rw [erg, hxs] at hPy
  intro _ _ v5 e5 _
  have y1r : y.2.1 1 = v.2.1 1 := gy.2.2.2 1 (by decide)
  rw [y1r] at e5
  rw [e5]
  have op : oc y (v.2.1 1 d) = oc v (v.2.1 1 d) := gy.oc hT p3.1 p3.2
  have ovl : oc y vl = oc v vl := gy.oc hT vv.1 vv.2
  refine pc_bindRow gy.1 (p3.up gy) (vv.up gy) (by rw [op, ovl, ix, iv]) (by rw [op, ix]; omega) (fun y2 g2 b2' eb2 c2 => ?_)
  rw [op, ovl, exs, ev, Ob.toList_ofList] at eb2
  have P2 := hPy.on g2 (fun k h => f8b_Y k (nY k h)) (fun k h => f8m_Y k (rY k h)) (g2.2.2.1 29 (by decide)) (g2.2.2.1 30 (by decide)) (g2.2.2.1 31 (by decide)) (g2.2.2.1 32 (by decide))
  have g2Y : CG f8Yn f8Yr y y2 := g2.mono f8b_Y f8m_Y
  have rows2 : ∀ k, 46 ≤ k → k ≤ 49 → y2.2.1 k = y.2.1 k := fun k h1 h2 => g2.2.2.2 k (by unfold f8m; simp only [Bool.or_eq_false_iff, decide_eq_false_iff_not]; omega)
  have hlw1 : ∀ x, Ob.isVar x = true → Ob.wt (Sp.arOf E) (Ob.lkD (xs.zip vs) x) ∧ (Ob.lkD (xs.zip vs) x).sz ≤ 120 := fun x hx => lkD_w (P := fun y => Ob.wt (Sp.arOf E) y ∧ y.sz ≤ 120) _ (fun pr hp => var_w (hv pr.2 (List.of_mem_zip hp).2)) (var_w hx)
  have hvar : ∀ x : Ob, x.isVar = true → (Ob.lkD (xs.zip vs) x).isPr = false := fun x hx => isVar_leaf (lkD_var hv x hx)
  have msk : ∀ j, f8Zr j = false → (decide (j = 34)) = false := fun j h => by
    unfold f8Zr at h
    simp only [Bool.or_eq_false_iff, decide_eq_false_iff_not] at h ⊢
    omega
  -- the call's terms
  refine pv_8_addInductionHypotheses_56_i (fun x1 x2 x3 x4 x5 x6 y' => x1 = c ∧ x2 = F ∧ x3 = d ∧ x4 = vl ∧ x5 = (k : Int) ∧ ∃ i : Nat, x6 = (i : Int) ∧ i ≤ vs.length ∧ CG f8Zn f8Zr y y' ∧ y'.1 32 = 0 ∧ y'.1 35 = y.1 35 ∧ y'.2.1 33 = y.2.1 33 ∧ (∀ j, 46 ≤ j → j ≤ 49 → y'.2.1 j = y.2.1 j) ∧ BnOk y' ∧ bdL y' = xs.zip vs ∧ (∀ j : Nat, j < i → NdC y' E (y'.2.1 34 (j : Int))) ∧ PdK_d B 0 n r u y' R (Sp.bd (Sp.rwArgs (fun a => Sp.fill (Ob.lkD (xs.zip vs)) a) (la.drop i)) (fun as => Sp.bd (Sp.fill (Ob.lkD (vs.zip (lsC y' (y'.2.1 34) 0 i ++ as))) (oc v F)) (fun x => Sp.bd (Sp.mkNot x) (fun z => Sp.bd (Sp.hypsGo (dfnC v d) vs (oc v F) (cs.drop (k + 1)) (Sp.putL (clC y c) z)) K))))) ?_ ⟨rfl, rfl, rfl, rfl, rfl, 0, rfl, Nat.zero_le _, g2Y.mono f8Y_Z f8Yr_Z, by rw [g2.2.2.1 32 (by decide)]; exact ya, g2.2.2.1 35 (by decide), g2.2.2.2 33 (by decide), rows2, b2', eb2, fun j hj => by omega, by rw [List.drop_zero]; exact P2⟩
  rintro x1 x2 x3 x4 x5 x6 w ⟨d1, d2, d3, d4, d5, i, d6, hi, gw, wa, w35, w33, rw4, hB, eB, hf, hPw⟩
  rw [d1, d2, d3, d4, d5, d6]
  have gvw := gy.tr gw
  have w2r : w.2.1 2 = v.2.1 2 := gvw.2.2.2 2 (by decide)
  unfold pv_8_addInductionHypotheses_56b
  intro _ _ v7 e7 _
  rw [w2r, ← hlen] at e7
  refine ⟨fun h => ?_, fun h => ?_⟩
  rotate_left
  · intro _ _ v18 e18 _ _
    rw [w33] at e18
    rw [← e18] at kc1 elc
    have o18 : oc w v18 = oc y v18 := gw.oc gy.1 kc1.1 kc1.2
    refine pc_item gw.1 (kc1.up gw) (by omega) (fun v20 vv20 e20 => ?_)
    rw [o18, elc, show ((i : Int) + 1).toNat = i + 1 by omega, Ob.item_call] at e20
    have il : i < la.length := by omega
    have gi : la[i]? = some (oc w v20) := by rw [e20, List.getD_eq_getElem?_getD, List.getElem?_eq_getElem il]; rfl
    obtain ⟨a1, a2⟩ := hla _ (List.mem_of_getElem? gi)
    rw [drop_of gi, rwArgs_cons] at hPw
    refine pc_fillV hPw nB rW fit (fun _ => Mono.bd (rwArgs_mono (fun _ => Mono.big) _) (fun _ => Mono.bd Mono.big (fun _ => Mono.bd Mono.not (fun _ => Mono.bd (hyps_mono _ _) hK)))) h6 ⟨vv20, a1, a2⟩ hB (fun x _ => by rw [eB]) (fun x hx => by rw [eB]; exact hlw1 x hx) wa (by rw [eB]; have := sz_sb hvar false (oc w v20); show Ob.szM false _ ≤ 120; rw [this]; exact a2) (fun t w3 g3 w3a nt hP3 => ?_)
    intro _ _ w4 e4 _
    have g4 : CG f8Zn f8Zr w3 w4 := by rw [e4]; exact CG_A g3.1 (by omega) (by decide)
    have P4 : PdK_d B 0 n r u w4 R _ := hP3.on (n' := f80) (r' := fun j => decide (j = 34)) (by rw [e4]; exact CG_A g3.1 (by omega) (by decide)) (fun _ _ => rfl) (fun j h => msk j (hr j h)) (by rw [e4]; rfl) (by rw [e4]; rfl) (by rw [e4]; rfl) (by rw [e4]; rfl)
    have c4 : ∀ x, oc w4 x = oc w3 x := fun x => oc_same (by rw [e4]; rfl) x
    have n4 : w4.1 = w3.1 := by rw [e4]; rfl
    have r4 : ∀ j, j ≠ 34 → w4.2.1 j = w3.2.1 j := fun j hj => by rw [e4]; exact iAc_ne _ _ _ hj
    have f34 : ∀ j, w4.2.1 34 j = if j = (i : Int) then t else w.2.1 34 j := fun j => by
      rw [e4, ← g3.2.2.2 34 (by decide)]; rfl
    have g34 := (g3.mono f8B_Y f8W_Y).mono f8Y_Z f8Yr_Z
    have g4w := g34.tr g4
    obtain ⟨B3, eB3⟩ := hB.mono gw.1 g4w (by rw [n4]; exact g3.2.2.1 39 (by decide)) (by rw [r4 35 (by decide)]; exact g3.2.2.2 35 (by decide)) (by rw [r4 36 (by decide)]; exact g3.2.2.2 36 (by decide))
    refine ⟨rfl, rfl, rfl, rfl, rfl, i + 1, by omega, by omega, gw.tr g4w, by rw [n4]; exact w3a, by rw [n4, g3.2.2.1 35 (by decide)]; exact w35, by rw [r4 33 (by decide), g3.2.2.2 33 (by decide)]; exact w33, fun j h1 h2 => by rw [r4 j (by omega), f8B_rows g3 j h1 h2]; exact rw4 j h1 h2, B3, eB3.trans eB, fun j hj => ?_, ?_⟩
    · rw [f34]
      by_cases q : (j : Int) = (i : Int)
      · rw [if_pos q]; exact (nt.up g3.1 g4).1
      · rw [if_neg q]; exact ((hf j (by omega)).up gw.1 g4w).1
    · have el : lsC w4 (w4.2.1 34) 0 (i + 1) = lsC w (w.2.1 34) 0 i ++ [oc w3 t] := by
        rw [lsC_snoc, f34, if_pos (by omega), c4]
        refine congrArg (fun x => x ++ [oc w3 t]) (lsC_congr (fun j hj => ?_))
        rw [f34, if_neg (by omega), show (0 : Int) + (j : Int) = (j : Int) by omega]
        exact ((hf j hj).up gw.1 g4w).2
      rw [el]
      simp only [List.append_assoc, List.cons_append, List.nil_append] at P4 ⊢
      exact P4
  -- all are there
  have iv' : i = vs.length := by omega
  have hdn : la.drop i = [] := List.drop_eq_nil_of_le (by omega)
  rw [hdn] at hPw
  generalize has : lsC w (w.2.1 34) 0 i = as at hPw
  have has' : as.length = vs.length := by rw [← has, lsC_len]; exact iv'
  have hPw : PdK_d B 0 n r u w R (Sp.bd (Sp.fill (Ob.lkD (vs.zip (as ++ []))) (oc v F)) (fun x => Sp.bd (Sp.mkNot x) (fun z => Sp.bd (Sp.hypsGo (dfnC v d) vs (oc v F) (cs.drop (k + 1)) (Sp.putL (clC y c) z)) K))) := hPw
  rw [List.append_nil] at hPw
  have asg : ∀ j : Nat, j < vs.length → as[j]? = some (oc w (w.2.1 34 (j : Int))) := fun j hj => by
    have := lsC_get w (w.2.1 34) 0 i (i := j) (by omega)
    rw [has, show (0 : Int) + (j : Int) = (j : Int) by omega] at this
    exact this
  unfold pv_10_unbind
  intro w1 e1'
  have gw1 : CG f8b f8m w w1 := by rw [e1']; exact CG_I gw.1 (by decide) (by decide)
  have cw1 : w1.2 = w.2 := by rw [e1']; rfl
  have P1' := hPw.on gw1 (fun k h => f8b_Y k (nY k h)) (fun k h => f8m_Y k (rY k h)) (gw1.2.2.1 29 (by decide)) (gw1.2.2.1 30 (by decide)) (gw1.2.2.1 31 (by decide)) (gw1.2.2.1 32 (by decide))
  have w139 : w1.1 39 = 0 := by rw [e1', iIc_at]
  refine pv_8_addInductionHypotheses_119_i (fun x1 x2 x3 x4 x5 x6 z => x1 = c ∧ x2 = F ∧ x3 = d ∧ x4 = vl ∧ x5 = (k : Int) ∧ ∃ j : Nat, x6 = (j : Int) ∧ j ≤ vs.length ∧ CG f8b f8m w z ∧ z.2.2 = w.2.2 ∧ z.2.1 34 = w.2.1 34 ∧ z.1 39 = (j : Int) ∧ BnOk z ∧ bdL z = (vs.take j).zip (as.take j) ∧ PdK_d B 0 n r u z R (Sp.bd (Sp.fill (Ob.lkD (vs.zip as)) (oc v F)) (fun x => Sp.bd (Sp.mkNot x) (fun z => Sp.bd (Sp.hypsGo (dfnC v d) vs (oc v F) (cs.drop (k + 1)) (Sp.putL (clC y c) z)) K)))) ?_ ⟨rfl, rfl, rfl, rfl, rfl, 0, rfl, Nat.zero_le _, gw1, by rw [cw1], by rw [cw1], w139, ⟨by omega, by omega, fun i i0 i1 => by omega⟩, by unfold bdL; rw [w139]; rfl, P1'⟩
  rintro x1 x2 x3 x4 x5 x6 z ⟨f1, f2, f3, f4, f5, j, f6, hj, gz, zc, z34, z39, hBz, eBz, hPz⟩
  rw [f1, f2, f3, f4, f5, f6]
  have gvz := gvw.tr ((gz.mono f8b_Y f8m_Y).mono f8Y_Z f8Yr_Z)
  have gyz := gw.tr ((gz.mono f8b_Y f8m_Y).mono f8Y_Z f8Yr_Z)
  have z2r : z.2.1 2 = v.2.1 2 := gvz.2.2.2 2 (by decide)
  unfold pv_8_addInductionHypotheses_119b
  intro _ _ v9 e9 _
  rw [z2r, ← hlen] at e9
  refine ⟨fun h => ?_, fun h => ?_⟩
  rotate_left
  · have jl : j < vs.length := by omega
    refine pc_item gz.1 (vv.up gvz) (by omega) (fun v14 vv14 e14 => ?_)
    rw [gvz.oc hT vv.1 vv.2, ev, Ob.item_get, Ob.toList_ofList, show ((j : Int)).toNat = j by omega, List.getD_eq_getElem?_getD, List.getElem?_eq_getElem jl] at e14
    have e14 : oc z v14 = vs[j] := e14
    intro _ _ v15 e15 _
    rw [z34] at e15
    have nf := hf j (by omega)
    rw [← e15] at nf
    have o15 : oc z v15 = oc w v15 := oc_same zc _
    refine pc_bind gz.1 hBz vv14 (nf.1.up gz) (by omega) (fun z1 gz1 B1 eB1 n1 r1 _ _ cz1 => ?_)
    intro _
    refine ⟨rfl, rfl, rfl, rfl, rfl, j + 1, by omega, by omega, gz.tr gz1, cz1.trans zc, by rw [r1 34 (by decide) (by decide)]; exact z34, by rw [n1, z39]; omega, B1, ?_, hPz.on gz1 (fun k h => f8b_Y k (nY k h)) (fun k h => f8m_Y k (rY k h)) (gz1.2.2.1 29 (by decide)) (gz1.2.2.1 30 (by decide)) (gz1.2.2.1 31 (by decide)) (gz1.2.2.1 32 (by decide))⟩
    rw [eB1, eBz, zip_take vs as j (oc z v14) (oc z v15) (by rw [e14, List.getElem?_eq_getElem jl]) (by rw [o15, e15]; exact asg j jl)]
  · have jv : j = vs.length := by omega
    rw [jv, List.take_length, List.take_of_length_le (by omega)] at eBz
    obtain ⟨nF, eF⟩ := hF.up hT gvz
    rw [← eF] at hPz
    have hz32 : z.1 32 = 0 := by rw [gz.2.2.1 32 (by decide)]; exact wa
    refine pc_fillG hPz nB rW fit (fun _ => Mono.bd Mono.not (fun _ => Mono.bd (hyps_mono _ _) hK)) h6 nF hBz (fun x _ => by rw [eBz]) (fun x hx => by
      rw [eBz]
      refine lkD_w (P := fun y => Ob.wt (Sp.arOf E) y ∧ y.sz ≤ 120) _ (fun pr hp => ?_) (var_w hx)
      obtain ⟨q, hq1, hq2⟩ := List.getElem_of_mem (List.of_mem_zip hp).2
      have := asg q (by omega)
      rw [List.getElem?_eq_getElem hq1, hq2] at this
      rw [Option.some.inj this]
      exact (hf q (by omega)).2) (fun v10 w5 g5 w5d n10 P5 _ => ?_)
    refine pc_negN P5 nB rW fit (fun _ => Mono.bd (hyps_mono _ _) hK) n10 (fun v11 w6 g6 w6d n11 P6 _ => ?_)
    have g56 := g5.tr g6
    have rows6 : ∀ j, 46 ≤ j → j ≤ 49 → w6.2.1 j = y.2.1 j := fun j h1 h2 => by
      rw [f8B_rows g56 j h1 h2, gz.2.2.2 j (by unfold f8m; simp only [Bool.or_eq_false_iff, decide_eq_false_iff_not]; omega)]
      exact rw4 j h1 h2
    have gy6 : CG f8Zn f8Zr y w6 := gyz.tr ((g56.mono f8B_Y f8W_Y).mono f8Y_Z f8Yr_Z)
    obtain ⟨W6, l6⟩ := hW.up gy.1 gy6 rows6
    rw [eF, ← l6] at P6
    refine pc_joinP (K := fun l => Sp.bd (Sp.hypsGo (dfnC v d) vs (oc v F) (cs.drop (k + 1)) l) K) P6 (fun j h => f8T_Y j (nY j h)) (fun j h => f8C_Y j (rY j h)) (fun _ => ⟨W6, by rw [l6]; exact hb⟩) n11 (fun l h => hyps_die hKd _ l h) (fun w7 g7 _ w7d hal7 P7 => ?_)
    intro _
    have gy7 : CG f8Zn f8Zr y w7 := gy6.tr ((g7.mono f8T_Y f8C_Y).mono f8Y_Z f8Yr_Z)
    refine ⟨rfl, rfl, rfl, rfl, k + 1, by omega, by omega, gy.tr gy7, fun q => absurd ya (yd q), hCy.up gy.1 gy7 ?_ ?_, fun q => ?_, P7.w⟩
    · rw [g7.2.2.1 35 (by decide), g56.2.2.1 35 (by decide), gz.2.2.1 35 (by decide)]; exact w35
    · rw [g7.2.2.2 33 (by decide), g56.2.2.2 33 (by decide), gz.2.2.2 33 (by decide)]; exact w33
    · obtain ⟨ck, W7, b7, e48⟩ := hal7 q
      refine ⟨ho.tr ((OtC.of rows6).tr (ck.ot (fun j hj => hj))), W7, b7, ?_⟩
      rw [e48, rows6 48 (by decide) (by decide)]
      exact h48
