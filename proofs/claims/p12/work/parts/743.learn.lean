-- deps: 742
/-! the class: the rule of a theorem -/
theorem pc_covers2 [DecidableEq Ob] {l : Int} {o : Ob} {Q : Int → iST → Prop} {v : iST} {E : Sp.Env} (hT : CT v) (hB : BnOk v) (hv : ∀ x, (∃ i, 0 ≤ i ∧ i < v.1 39 ∧ oc v (v.2.1 35 i) = x) ↔ (x ∈ Ob.parts o ∧ Ob.isVar x = true)) (nl : NdC v E l) (hq : ∀ r w, CG f80 f8q v w → w.2.2 = v.2.2 → bq r (Sp.covers (oc v l) o) → Q r w) : pv_10_hasBound l Q v := by
  refine pc_hasBound (ar := Sp.arOf E) hT nl.1 nl.2.1 nl.2.2 hB (fun r w gw cw hr => hq r w gw cw (bq_of ?_))
  rw [hr, covers_iff]
  constructor
  · intro h x hx hx2
    obtain ⟨i, i0, i1, e⟩ := (hv x).mpr ⟨hx, hx2⟩
    rw [← e]; exact h i i0 i1
  · intro h i i0 i1
    obtain ⟨a, b⟩ := (hv _).mp ⟨i, i0, i1, rfl⟩
    exact h _ a b
def HyC [DecidableEq Ob] (v : iST) (E : Sp.Env) (r : Int) : Prop := (0 ≤ v.2.1 9 r ∧ v.2.1 9 r ≤ 60) ∧ ∀ i, 0 ≤ i → i < v.2.1 9 r → NdC v E (v.2.1 50 (60 * r + i))
theorem hypC_same [DecidableEq Ob] {u v : iST} {r : Int} (h9 : v.2.1 9 r = u.2.1 9 r) (h50 : v.2.1 50 = u.2.1 50) (hc : v.2.2 = u.2.2) : hypC v r = hypC u r := by
  unfold hypC
  rw [h9, h50]
  exact List.map_congr_left (fun i _ => oc_same hc _)
def guardR [DecidableEq Ob] (l r : Ob) (h : List Ob) : Bool := Ob.isCall l && Ob.lft l ≠ Ob.ifS && Ob.lft l ≠ Ob.not && Ob.lft l ≠ Ob.implies && l ≠ r && Sp.covers l r && h.all (Sp.covers l)
theorem pc_isRule [DecidableEq Ob] {r l o : Int} {Q : Int → iST → Prop} {u : iST} {E : Sp.Env} (hT : CT u) (nl : NdC u E l) (no : NdC u E o) (hH : HyC u E r) (hq : ∀ q v, CG f8b f8m u v → v.2.2 = u.2.2 → bq q (guardR (oc u l) (oc u o) (hypC u r)) → Q q v) : pv_6_isRule r l o Q u := by
  -- all hypotheses
  have loop : ∀ (y : iST) (x5 : Int) (g0 : Bool), CG f8b f8m u y → y.2.2 = u.2.2 → bq x5 g0 → (guardR (oc u l) (oc u o) (hypC u r) = (g0 && (hypC u r).all (Sp.covers (oc u l)))) → pv_6_isRule_95 Q r l x5 0 y := by
    intro y x5 g0 gy cy h5 hg
    refine pv_6_isRule_95_i (fun x1 x2 x5 x6 z => x1 = r ∧ x2 = l ∧ 0 ≤ x6 ∧ x6 ≤ u.2.1 9 r ∧ CG f8b f8m u z ∧ z.2.2 = u.2.2 ∧ bq x5 (g0 && ((hypC u r).take x6.toNat).all (Sp.covers (oc u l)))) ?_ ⟨rfl, rfl, Int.le_refl _, hH.1.1, gy, cy, by simpa using h5⟩
    rintro x1 x2 x5 x6 z ⟨b1, b2, i0, i1, gz, cz, hb⟩
    rw [b1, b2]
    have ec : ∀ k, oc z k = oc u k := oc_same cz
    have z9 : z.2.1 9 = u.2.1 9 := gz.2.2.2 9 (by decide)
    have z50 : z.2.1 50 = u.2.1 50 := gz.2.2.2 50 (by decide)
    unfold pv_6_isRule_95b
    intro _ _ n3 en3 _
    rw [en3, z9]
    refine ⟨fun q _ => hq x5 z gz cz ?_, fun q => ⟨fun q2 _ => hq x5 z gz cz ?_, fun q2 => ?_⟩⟩
    · rw [List.take_of_length_le (by rw [hypC_len]; omega)] at hb
      rw [hg]; exact hb
    · rw [hg]
      have h0 := hb.f q2
      have : (g0 && (hypC u r).all (Sp.covers (oc u l))) = false := by
        cases hg0 : g0 with
        | false => rfl
        | true =>
          rw [hg0, Bool.true_and] at h0
          rw [Bool.true_and]
          refine bf_of (fun ha => ?_)
          rw [List.all_eq_true] at ha
          have : ((hypC u r).take x6.toNat).all (Sp.covers (oc u l)) = true := List.all_eq_true.mpr (fun a ha' => ha a (List.mem_of_mem_take ha'))
          rw [this] at h0; cases h0
      rw [this, q2]
      exact ⟨fun _ => rfl, fun _ => rfl⟩
    intro _ _ _ _ n6 en6 _
    rw [en6, z50]
    have nh := hH.2 x6 i0 (by omega)
    obtain ⟨nhz, ehz⟩ := nh.up hT gz
    obtain ⟨nlz, elz⟩ := nl.up hT gz
    refine pc_bindVariablesOf (ar := Sp.arOf E) gz.1 nhz.1 nhz.2.1 nhz.2.2 (fun w gw hBw cw hv => ?_)
    refine pc_covers2 gw.1 hBw hv (nlz.up gz.1 gw).1 (fun q8 y' gy' cy' hb8 _ => ?_)
    rw [(nlz.up gz.1 gw).2, elz, ehz] at hb8
    refine ⟨rfl, rfl, by omega, by omega, (gz.tr gw).tr (gy'.mono f80_any f8q_m), by rw [cy', cw, cz], ?_⟩
    have hx := hb.t q2
    have hget := hypC_get (w := u) (r := r) (i := x6.toNat) (by omega)
    rw [Int.toNat_of_nonneg i0] at hget
    have htk : (hypC u r).take (x6 + 1).toNat = (hypC u r).take x6.toNat ++ [oc u (u.2.1 50 (60 * r + x6))] := by
      rw [show (x6 + 1).toNat = x6.toNat + 1 by omega, List.take_add_one, hget]
      rfl
    rw [htk, List.all_append]
    rw [Bool.and_eq_true] at hx
    rw [hx.1, hx.2]
    simpa using hb8
  -- the looks of it
  have e59 : ∀ y0 : Int, bq y0 (Ob.isCall (oc u l) && Ob.lft (oc u l) ≠ Ob.ifS && Ob.lft (oc u l) ≠ Ob.not && Ob.lft (oc u l) ≠ Ob.implies && oc u l ≠ oc u o) → pv_6_isRule_59 Q r l o y0 u := by
    intro y0 hb
    unfold pv_6_isRule_59
    refine pc_bindVariablesOf (ar := Sp.arOf E) hT no.1 no.2.1 no.2.2 (fun w gw hBw cw hv => ⟨fun z => ?_, fun z => ?_⟩)
    · unfold pv_6_isRule_89 pv_6_isRule_90
      refine loop w 0 false gw cw ⟨fun _ => rfl, fun _ => rfl⟩ ?_
      unfold guardR
      rw [hb.f z]; rfl
    · obtain ⟨nlw, elw⟩ := nl.up hT gw
      refine pc_covers2 gw.1 hBw hv nlw (fun q8 y' gy' cy' hb8 => ⟨fun z2 => ?_, fun z2 => ?_⟩)
      · unfold pv_6_isRule_89 pv_6_isRule_90
        refine loop y' 0 false (gw.tr (gy'.mono f80_any f8q_m)) (by rw [cy', cw]) ⟨fun _ => rfl, fun _ => rfl⟩ ?_
        have := hb8.f z2
        rw [elw] at this
        unfold guardR
        rw [hb.t z, this]; rfl
      · unfold pv_6_isRule_90
        refine loop y' 1 true (gw.tr (gy'.mono f80_any f8q_m)) (by rw [cy', cw]) ⟨(fun q => by cases q), (fun q => by cases q)⟩ ?_
        have := hb8.t z2
        rw [elw] at this
        unfold guardR
        rw [hb.t z, this]; rfl
  unfold pv_6_isRule pv_6_isRule_58
  have inj := hT.1.inj nl.1.1 nl.1.2 no.1.1 no.1.2
  refine pc_isCall hT nl.1 (fun r1 hr1 => ⟨fun z => e59 0 ⟨fun _ => by rw [hr1.f z]; rfl, fun _ => rfl⟩, fun z => ?_⟩)
  have hc := hr1.t z
  refine pc_isCallK 3 hT nl.1 (by decide) (by decide) (o := Ob.ifS) rfl (fun r2 hr2 => ⟨fun z2 => e59 0 ⟨fun _ => ?_, fun _ => rfl⟩, fun z2 => ?_⟩)
  · have := lft_of (hr2.t z2)
    rw [hc, this]; simp
  have n1 : Ob.lft (oc u l) ≠ Ob.ifS := fun q => by
    have := hr2.f (Decidable.not_not.mp z2)
    rw [call_lft hc, decide_eq_true q] at this; cases this
  refine pc_isCallK 16 hT nl.1 (by decide) (by decide) (o := Ob.not) rfl (fun r3 hr3 => ⟨fun z3 => e59 0 ⟨fun _ => ?_, fun _ => rfl⟩, fun z3 => ?_⟩)
  · have := lft_of (hr3.t z3)
    rw [hc, this]; simp
  have n2 : Ob.lft (oc u l) ≠ Ob.not := fun q => by
    have := hr3.f (Decidable.not_not.mp z3)
    rw [call_lft hc, decide_eq_true q] at this; cases this
  refine pc_isCallK 6 hT nl.1 (by decide) (by decide) (o := Ob.implies) rfl (fun r4 hr4 => ⟨fun z4 => e59 0 ⟨fun _ => ?_, fun _ => rfl⟩, fun z4 => ?_⟩)
  · have := lft_of (hr4.t z4)
    rw [hc, this]; simp
  have n3 : Ob.lft (oc u l) ≠ Ob.implies := fun q => by
    have := hr4.f (Decidable.not_not.mp z4)
    rw [call_lft hc, decide_eq_true q] at this; cases this
  refine ⟨fun z5 => e59 0 ⟨fun _ => ?_, fun _ => rfl⟩, fun z5 => e59 1 ⟨(fun q => by cases q), fun q => ?_⟩⟩
  · rw [inj.mpr z5.symm]; simp
  · rw [hc, decide_eq_true n1, decide_eq_true n2, decide_eq_true n3, decide_eq_true (show oc u l ≠ oc u o from fun q => z5 (inj.mp q).symm)] at q
    cases q
theorem hypIn_len [DecidableEq Ob] {E : Sp.Env} : ∀ (n : Nat) (o : Ob), o.sz ≤ (n : Int) → Ob.wt (Sp.arOf E) o → 2 * ((Sp.hypIn o).length : Int) ≤ o.sz + 1 := by
  intro n
  induction n with
  | zero => intro o h _; have := Ob.sz_pos o; omega
  | succ n ih =>
    intro o h hw
    by_cases q : o.isCallOf Ob.ifS = true ∧ o.item 3 = Ob.nil
    · obtain ⟨a, b, c, e, wa, wb, wc⟩ := Ob.wt_three hw q.1 ifq' (arOf_ifS E)
      have ec : c = Ob.nil := by have := q.2; rw [e] at this; exact this
      have es : o.sz = 1 + (a.sz + (b.sz + (c.sz + 0))) := by rw [e]; exact if_neg ifq'
      have pa := Ob.sz_pos a
      have pb := Ob.sz_pos b
      have pc := Ob.sz_pos c
      have ha := ih a (by omega) wa
      have hb := ih b (by omega) wb
      have eh : Sp.hypIn o = Sp.hypIn a ++ Sp.hypIn b := by rw [e, ec, hypIn_if]
      rw [eh, List.length_append]
      omega
    · rw [hypIn_no q]
      have := Ob.sz_pos o
      show 2 * ((1 : Nat) : Int) ≤ _
      omega
/-- what learning changes -/
def f8V (k : Nat) : Bool := f8m k || decide (7 ≤ k ∧ k ≤ 12) || decide (k = 50)
theorem f8m_V [DecidableEq Ob] : ∀ k, f8V k = false → f8m k = false := fun k h => by unfold f8V at h; simp only [Bool.or_eq_false_iff] at h; exact h.1.1
def LnK [DecidableEq Ob] (r : Int) (u v : iST) : Prop := CG f8b f8V u v ∧ v.2.2 = u.2.2 ∧ (∀ k, 7 ≤ k → k ≤ 12 → ∀ j, j ≠ r → v.2.1 k j = u.2.1 k j) ∧ ∀ i, i < 60 * r → v.2.1 50 i = u.2.1 50 i
theorem LnK.rf [DecidableEq Ob] {r : Int} {u : iST} (h : CT u) : LnK r u u := ⟨CG.rf h, rfl, fun _ _ _ _ _ => rfl, fun _ _ => rfl⟩
theorem LnK.tr [DecidableEq Ob] {r : Int} {u v w : iST} (h : LnK r u v) (g : LnK r v w) : LnK r u w := ⟨h.1.tr g.1, g.2.1.trans h.2.1, fun k a b j hj => (g.2.2.1 k a b j hj).trans (h.2.2.1 k a b j hj), fun i hi => (g.2.2.2 i hi).trans (h.2.2.2 i hi)⟩
theorem LnK.of [DecidableEq Ob] {r : Int} {u v : iST} (g : CG f8b f8m u v) (hc : v.2.2 = u.2.2) : LnK r u v := ⟨g.mono (fun _ h => h) f8m_V, hc, fun k a b j _ => by rw [g.2.2.2 k (by unfold f8m; simp only [Bool.or_eq_false_iff, decide_eq_false_iff_not]; omega)], fun i _ => by rw [g.2.2.2 50 (by decide)]⟩
theorem LnK_A [DecidableEq Ob] {r x : Int} {k : Nat} {u : iST} (hT : CT u) (h1 : 7 ≤ k) (h2 : k ≤ 12) : LnK r u (iA u k r x) := by
  refine ⟨CG_A hT (by omega) (by unfold f8V; rw [decide_eq_true (show 7 ≤ k ∧ k ≤ 12 from ⟨h1, h2⟩)]; simp), rfl, fun m a b j hj => ?_, fun i _ => congrFun (if_neg (show ¬ 50 = k by omega)) i⟩
  by_cases c : m = k
  · rw [c]; exact (congrFun (if_pos rfl) j).trans (if_neg hj)
  · exact congrFun (if_neg c) j
theorem LnK_41 [DecidableEq Ob] {r i x : Int} {u : iST} (hT : CT u) : LnK r u (iA u 41 i x) := ⟨CG_A hT (by omega) (by decide), rfl, fun m a b j hj => congrFun (if_neg (show ¬ m = 41 by omega)) j, fun i _ => rfl⟩
theorem LnK_50 [DecidableEq Ob] {r i x : Int} {u : iST} (hT : CT u) (hi : 60 * r ≤ i) : LnK r u (iA u 50 i x) := ⟨CG_A hT (by omega) (by decide), rfl, fun m a b j hj => congrFun (if_neg (show ¬ m = 50 by omega)) j, fun j hj => if_neg (show ¬ j = i by omega)⟩
def pileH [DecidableEq Ob] (y : iST) : Nat → List Ob | 0 => [] | n + 1 => Sp.hypIn (oc y (y.2.1 41 (n : Int))) ++ pileH y n
theorem pileH_congr [DecidableEq Ob] {y z : iST} : ∀ n : Nat, (∀ i : Nat, i < n → oc z (z.2.1 41 (i : Int)) = oc y (y.2.1 41 (i : Int))) → pileH z n = pileH y n
  | 0, _ => rfl
  | n + 1, h => by
    show Sp.hypIn (oc z (z.2.1 41 (n : Int))) ++ pileH z n = Sp.hypIn (oc y (y.2.1 41 (n : Int))) ++ pileH y n
    rw [pileH_congr n (fun i hi => h i (by omega)), h n (by omega)]
theorem pc_addHypotheses [DecidableEq Ob] {r h : Int} {Q : iST → Prop} {u : iST} {E : Sp.Env} (hT : CT u) (nh : NdC u E h) (hH : HyC u E r) (hm : 2 * u.2.1 9 r + (oc u h).sz + 1 ≤ 120) (hq : ∀ v, LnK r u v → v.1 = u.1 → (∀ k, k ≠ 9 → k ≠ 41 → k ≠ 50 → v.2.1 k = u.2.1 k) → HyC v E r → hypC v r = hypC u r ++ Sp.hypIn (oc u h) → Q v) : pv_6_addHypotheses r h Q u := by
  have hlen := hypIn_len (E := E) 120 (oc u h) nh.2.2 nh.2.1
  have hc60 : ((hypC u r ++ Sp.hypIn (oc u h)).length : Int) ≤ 60 := by
    rw [List.length_append, hypC_len]
    have := hH.1.1
    omega
  unfold pv_6_addHypotheses
  intro _ _ y0 e0
  have k0 : LnK r u y0 := by rw [e0]; exact LnK_41 hT
  have r41 : y0.2.1 41 0 = h := by rw [e0]; rfl
  have r0 : ∀ k, k ≠ 41 → y0.2.1 k = u.2.1 k := fun k hk => by rw [e0]; exact if_neg hk
  have n0 : y0.1 = u.1 := by rw [e0]; rfl
  have ec0 : ∀ k, oc y0 k = oc u k := oc_same k0.2.1
  refine pv_6_addHypotheses_18_i (fun x1 x4 x5 y => x1 = r ∧ 0 ≤ x4 ∧ 0 ≤ x5 ∧ LnK r u y ∧ y.1 = u.1 ∧ (∀ k, k ≠ 9 → k ≠ 41 → k ≠ 50 → y.2.1 k = u.2.1 k) ∧ (∀ i, 0 ≤ i → i < x4 → NdC y E (y.2.1 41 i)) ∧ HyC y E r ∧ hypC y r ++ pileH y x4.toNat = hypC u r ++ Sp.hypIn (oc u h) ∧ x5 + wsm y x4.toNat ≤ 120) ?_ ⟨rfl, by decide, by decide, k0, n0, fun k _ h2 _ => r0 k h2, fun i i0 i1 => ?_, ?_, ?_, ?_⟩
  rotate_left
  · rw [show i = 0 by omega, r41]; exact (nh.up hT k0.1).1
  · refine ⟨by rw [r0 9 (by decide)]; exact hH.1, fun i i0 i1 => ?_⟩
    rw [r0 9 (by decide)] at i1
    rw [r0 50 (by decide)]
    exact ((hH.2 i i0 i1).up hT k0.1).1
  · rw [hypC_same (by rw [r0 9 (by decide)]) (r0 50 (by decide)) k0.2.1]
    show hypC u r ++ (Sp.hypIn (oc y0 (y0.2.1 41 0)) ++ []) = _
    rw [r41, ec0, List.append_nil]
  · show 0 + (0 + (oc y0 (y0.2.1 41 0)).sz) ≤ 120
    rw [r41, ec0]
    have := nh.2.2
    omega
  rintro x1 x4 x5 y ⟨b1, i0, j0, ky, yn, yr, hN, hHy, hP, hW⟩
  rw [b1]
  have hTy := ky.1.1
  have wge := wsm_ge y x4.toNat
  unfold pv_6_addHypotheses_18b
  refine ⟨fun z => by omega, fun _ => ⟨fun z => ?_, fun z => ?_⟩⟩
  · refine hq y ky yn yr hHy ?_
    rw [show x4.toNat = 0 by omega] at hP
    have hP : hypC y r ++ [] = _ := hP
    rw [List.append_nil] at hP
    exact hP
  intro _ _ _ n2 en2 _ _ _ n3 en3 _
  have np := hN (x4 + -1) (by omega) (by omega)
  rw [← en2] at np
  rw [en3]
  have et : x4.toNat = (x4 + -1).toNat + 1 := by omega
  have ei : (((x4 + -1).toNat : Nat) : Int) = x4 + -1 := by omega
  have wS : wsm y x4.toNat = wsm y (x4 + -1).toNat + (oc y n2).sz := by
    rw [et]
    show wsm y (x4 + -1).toNat + (oc y (y.2.1 41 (((x4 + -1).toNat : Nat) : Int))).sz = _
    rw [ei, ← en2]
  have pS : pileH y x4.toNat = Sp.hypIn (oc y n2) ++ pileH y (x4 + -1).toNat := by
    rw [et]
    show Sp.hypIn (oc y (y.2.1 41 (((x4 + -1).toNat : Nat) : Int))) ++ pileH y (x4 + -1).toNat = _
    rw [ei, ← en2]
  have psz := Ob.sz_pos (oc y n2)
  -- it is one
  have one : ¬ ((oc y n2).isCallOf Ob.ifS = true ∧ (oc y n2).item 3 = Ob.nil) → pv_6_addHypotheses_121 (fun x1 x4 x5 y => x1 = r ∧ 0 ≤ x4 ∧ 0 ≤ x5 ∧ LnK r u y ∧ y.1 = u.1 ∧ (∀ k, k ≠ 9 → k ≠ 41 → k ≠ 50 → y.2.1 k = u.2.1 k) ∧ (∀ i, 0 ≤ i → i < x4 → NdC y E (y.2.1 41 i)) ∧ HyC y E r ∧ hypC y r ++ pileH y x4.toNat = hypC u r ++ Sp.hypIn (oc u h) ∧ x5 + wsm y x4.toNat ≤ 120) Q r (x4 + -1) x5 n2 (y.2.1 9 r) y := by
    intro hno
    rw [pS, hypIn_no hno] at hP
    have hl : ((hypC y r ++ ([oc y n2] ++ pileH y (x4 + -1).toNat)).length : Int) ≤ 60 := by rw [hP]; exact hc60
    rw [List.length_append, List.length_append, hypC_len] at hl
    have hl : (((y.2.1 9 r).toNat + (1 + (pileH y (x4 + -1).toNat).length) : Nat) : Int) ≤ 60 := hl
    have h9 := hHy.1.1
    unfold pv_6_addHypotheses_121
    refine ⟨fun z2 => by omega, fun z2 => ?_⟩
    intro _ _ _ _ y1 e1 _ _ n8 en8 _ _ _ _ y2 e2 _
    have k1 : LnK r y y1 := by rw [e1]; exact LnK_50 hTy (by omega)
    have y19 : y1.2.1 9 = y.2.1 9 := by rw [e1]; rfl
    rw [en8, y19] at e2
    have k2 : LnK r y1 y2 := by rw [e2]; exact LnK_A k1.1.1 (by decide) (by decide)
    have k12 := k1.tr k2
    have ec : ∀ k, oc y2 k = oc y k := oc_same k12.2.1
    have q9 : y2.2.1 9 r = y.2.1 9 r + 1 := by rw [e2]; show (if r = r then _ else _) = _; rw [if_pos rfl]
    have q50 : ∀ j, y2.2.1 50 j = if j = 60 * r + y.2.1 9 r then n2 else y.2.1 50 j := fun j => by rw [e2, e1]; rfl
    have qo : ∀ k, k ≠ 9 → k ≠ 50 → y2.2.1 k = y.2.1 k := fun k h1 h2 => by rw [e2, e1]; exact (if_neg h1).trans (if_neg h2)
    refine ⟨rfl, by omega, by omega, ky.tr k12, by rw [e2, e1]; exact yn, fun k h1 h2 h3 => by rw [qo k h1 h3]; exact yr k h1 h2 h3, fun i i0' i1' => ?_, ⟨by rw [q9]; omega, fun i i0' i1' => ?_⟩, ?_, ?_⟩
    · rw [qo 41 (by decide) (by decide)]
      exact ((hN i i0' (by omega)).up hTy k12.1).1
    · rw [q9] at i1'
      rw [q50]
      by_cases c : i = y.2.1 9 r
      · rw [if_pos (by omega)]; exact (np.up hTy k12.1).1
      · rw [if_neg (by omega)]; exact ((hHy.2 i i0' (by omega)).up hTy k12.1).1
    · have eh : hypC y2 r = hypC y r ++ [oc y n2] := by
        unfold hypC
        rw [q9, show (y.2.1 9 r + 1).toNat = (y.2.1 9 r).toNat + 1 by omega, List.range_succ, List.map_append]
        congr 1
        · refine List.map_congr_left (fun i hi => ?_)
          have hi := List.mem_range.mp hi
          rw [q50, if_neg (by omega), ec]
        · show [oc y2 (y2.2.1 50 (60 * r + (((y.2.1 9 r).toNat : Nat) : Int)))] = _
          rw [q50, if_pos (by omega), ec]
      rw [eh, pileH_congr (y := y) (z := y2) (x4 + -1).toNat (fun i _ => by rw [qo 41 (by decide) (by decide), ec]), List.append_assoc]
      exact hP
    · rw [wsm_congr (y := y) (z := y2) (x4 + -1).toNat (fun i _ => by rw [qo 41 (by decide) (by decide), ec])]
      omega
  refine pc_isCallK 3 hTy np.1 (by decide) (by decide) (o := Ob.ifS) rfl (fun r4 hr4 => ⟨fun z4 => one (fun q => ?_), fun z4 => ?_⟩)
  · have := hr4.f z4
    rw [q.1] at this; cases this
  have hif := hr4.t z4
  refine pc_it hTy np hif ifq' (arOf_ifS E) (by decide) (by decide) (fun c3 nc3 ec3 => ?_)
  have ec3 : oc y c3 = (oc y n2).item 3 := ec3
  have z0 := oc_nil hTy nc3.1
  refine ⟨fun z5 => one (fun q => z5 (z0.mpr (by rw [ec3]; exact q.2))), fun z5 => ?_⟩
  have h3 : (oc y n2).item 3 = Ob.nil := by rw [← ec3]; exact z0.mp (Decidable.not_not.mp z5)
  intro _
  refine ⟨fun z6 => by omega, fun _ => ?_⟩
  obtain ⟨a, b, c, eo, wa, wb, wc⟩ := Ob.wt_three np.2.1 hif ifq' (arOf_ifS E)
  have ecn : c = Ob.nil := by rw [eo] at h3; exact h3
  have es : (oc y n2).sz = 1 + (a.sz + (b.sz + (c.sz + 0))) := by rw [eo]; exact if_neg ifq'
  have pcz := Ob.sz_pos c
  have pa := Ob.sz_pos a
  have pb := Ob.sz_pos b
  refine pc_it hTy np hif ifq' (arOf_ifS E) (by decide) (by decide) (fun b2 nb2 eb2 => ?_)
  have eb2 : oc y b2 = b := by rw [eb2, eo]; rfl
  intro _ _ y1 e1 _
  have k1 : LnK r y y1 := by rw [e1]; exact LnK_41 hTy
  obtain ⟨np1, ep1⟩ := np.up hTy k1.1
  refine pc_it k1.1.1 np1 (by rw [ep1]; exact hif) ifq' (arOf_ifS E) (by decide) (by decide) (fun a2 na2 ea2 => ?_)
  have ea2 : oc y1 a2 = a := by rw [ea2, ep1, eo]; rfl
  intro _ _ y2 e2 _ _
  have k2 : LnK r y1 y2 := by rw [e2]; exact LnK_41 k1.1.1
  have k12 := k1.tr k2
  have ec : ∀ k, oc y2 k = oc y k := oc_same k12.2.1
  have ec1 : ∀ k, oc y1 k = oc y k := oc_same k1.2.1
  rw [ec1] at ea2
  have q41 : ∀ j, y2.2.1 41 j = if j = x4 + -1 + 1 then a2 else if j = x4 + -1 then b2 else y.2.1 41 j := fun j => by rw [e2, e1]; rfl
  have qo : ∀ k, k ≠ 41 → y2.2.1 k = y.2.1 k := fun k h1 => by rw [e2, e1]; exact (if_neg h1).trans (if_neg h1)
  have na2' : NdC y2 E a2 := (na2.up k1.1.1 k2.1).1
  have nb2' : NdC y2 E b2 := (nb2.up hTy k12.1).1
  have et2 : (x4 + -1 + 2).toNat = ((x4 + -1).toNat + 1) + 1 := by omega
  refine ⟨rfl, by omega, by omega, ky.tr k12, by rw [e2, e1]; exact yn, fun k h1 h2 h3 => by rw [qo k h2]; exact yr k h1 h2 h3, fun i i0' i1' => ?_, ⟨by rw [qo 9 (by decide)]; exact hHy.1, fun i i0' i1' => ?_⟩, ?_, ?_⟩
  · rw [q41]
    by_cases c1 : i = x4 + -1 + 1
    · rw [if_pos c1]; exact na2'
    · rw [if_neg c1]
      by_cases c2 : i = x4 + -1
      · rw [if_pos c2]; exact nb2'
      · rw [if_neg c2]; exact ((hN i i0' (by omega)).up hTy k12.1).1
  · rw [qo 9 (by decide)] at i1'
    rw [qo 50 (by decide)]
    exact ((hHy.2 i i0' i1').up hTy k12.1).1
  · rw [hypC_same (by rw [qo 9 (by decide)]) (qo 50 (by decide)) k12.2.1, et2]
    show hypC y r ++ (Sp.hypIn (oc y2 (y2.2.1 41 (((x4 + -1).toNat + 1 : Nat) : Int))) ++ (Sp.hypIn (oc y2 (y2.2.1 41 ((x4 + -1).toNat : Int))) ++ pileH y2 (x4 + -1).toNat)) = _
    rw [q41, if_pos (by omega), q41, if_neg (by omega), if_pos (by omega), ec, ec, ea2, eb2, pileH_congr (y := y) (z := y2) (x4 + -1).toNat (fun i hi => by rw [q41, if_neg (by omega), if_neg (by omega), ec])]
    rw [pS, eo, ecn, hypIn_if, List.append_assoc] at hP
    exact hP
  · rw [et2]
    show x5 + 1 + (wsm y2 (x4 + -1).toNat + (oc y2 (y2.2.1 41 ((x4 + -1).toNat : Int))).sz + (oc y2 (y2.2.1 41 (((x4 + -1).toNat + 1 : Nat) : Int))).sz) ≤ 120
    rw [q41, if_neg (by omega), if_pos (by omega), q41, if_pos (by omega), ec, ec, ea2, eb2, wsm_congr (y := y) (z := y2) (x4 + -1).toNat (fun i hi => by rw [q41, if_neg (by omega), if_neg (by omega), ec])]
    omega
