-- deps: 737
/-! the class: calls of BASE functions by their form -/
theorem PdK.cgm [DecidableEq Ob] {α : Type} {B : Int} {n r : Nat → Bool} {u v : iST} {R : EStateM.Result Unit Sp.Wk α} {m m' : Sp.M α} (h : PdK B n r u v R m) (e : v.1 32 = 0 → m = m') : PdK B n r u v R m' := by
  refine ⟨h.1, ?_⟩
  rcases h.2 with ⟨s, hl, q⟩ | q
  · exact Or.inl ⟨s, hl, by rw [← e hl.1]; exact q⟩
  · exact Or.inr q
theorem nat_zeroC [DecidableEq Ob] {o : Ob} (h : o.isNat = true) : o = Ob.nat 0 ↔ o.num = 0 := by
  cases o with
  | op a b => cases h
  | var x =>
    have h : (x % 2 == 0) = true := h
    have h2 : x % 2 = 0 := by simpa using h
    have e : Ob.num (.var x) = if x % 2 = 0 then ((x / 2 : Nat) : Int) else 0 := rfl
    rw [e, if_pos h2]
    constructor
    · intro q
      have q : (Lean.Data.AC.Expr.var x) = Lean.Data.AC.Expr.var (2 * (0 : Int).toNat) := q
      injection q with q
      rw [q]; rfl
    · intro q
      have : x = 0 := by omega
      rw [this]; rfl
theorem num_nat [DecidableEq Ob] {o : Ob} (h : 0 < o.num) : o.isNat = true := by
  cases o with
  | op a b => exact absurd (show (0 : Int) < 0 from h) (by decide)
  | var x =>
    have e : Ob.num (.var x) = if x % 2 = 0 then ((x / 2 : Nat) : Int) else 0 := rfl
    rw [e] at h
    show (x % 2 == 0) = true
    by_cases c : x % 2 = 0
    · rw [c]; rfl
    · rw [if_neg c] at h; exact absurd h (by decide)
section
variable {α : Type} {u0 v0 v : iST} {E : Sp.Env} {B x g row c t T : Int} {R : EStateM.Result Unit Sp.Wk α} {Q : Int → iST → Prop} {K : Ob → Sp.M α} {d : Nat} {ctx : List Ob}
theorem red_look [DecidableEq Ob] {m : Int} (hM : FmJ u0 E B R Q d c x g row v0 T K) (hS : StJ E c x g row ctx v0 v) (h5 : v.2.1 51 (17 * c + 5) = m) (nm : NdC v E m) (hc : (oc v m).isCall = true) (hpl : Sp.plain (oc v m) = none) (hP : PdK B f8Jn f8Jr u0 v R (Sp.bd (Sp.rwRest E (Sp.rw E d ctx) ctx (oc v m) (decide (g = 1))) (fun y => K (Sp.fin (decide (g = 1)) y)))) (ht : t + T + 4 ≤ 24 * (v.1 31 - u0.1 31)) : ∀ y1, y1 = iA v 51 (17 * c + 3) 11 → pv_6_rewritten_20 Q (t + 1) y1 := by
  intro y1 e1
  obtain ⟨k1, m1, c1, q1r, s1, q1⟩ := fr_set hS.ct e1 (by decide)
  obtain ⟨nm1, em1⟩ := nm.up hS.ct k1.1
  unfold Sp.rwRest at hP
  rw [hpl] at hP
  refine st_look (t := t + 1) (m := m) hM (hS.set e1 (by decide)) q1 (by rw [s1 _ (by omega)]; exact h5) nm1 (by rw [em1]; exact hc) ?_ (by rw [m1]; omega)
  rw [em1]
  exact hP.same k1.1 (fun k _ _ => by rw [m1])
theorem red_fin [DecidableEq Ob] {m a : Int} (hM : FmJ u0 E B R Q d c x g row v0 T K) (hS : StJ E c x g row ctx v0 v) (na : NdC v E a) (hpl : Sp.plain (oc v m) = some (.inl (oc v a))) (hP : PdK B f8Jn f8Jr u0 v R (Sp.bd (Sp.rwRest E (Sp.rw E d ctx) ctx (oc v m) (decide (g = 1))) (fun y => K (Sp.fin (decide (g = 1)) y)))) (ht : t + T + 4 ≤ 24 * (v.1 31 - u0.1 31)) : pv_6_finish a (fun u => ovp (t + 1) (pv_6_rewritten_20 Q (t + 1) u)) v := by
  unfold Sp.rwRest at hP
  rw [hpl] at hP
  exact fr_fin (t := t + 1) hM hS.1 hS.2.1 na.d hP.retd (by omega) (fun w h _ => h)
theorem red_ask [DecidableEq Ob] {m : Int} {M : Sp.M Ob} (hpl : Sp.plain (oc v m) = some (.inr M)) (hP : PdK B f8Jn f8Jr u0 v R (Sp.bd (Sp.rwRest E (Sp.rw E d ctx) ctx (oc v m) (decide (g = 1))) (fun y => K (Sp.fin (decide (g = 1)) y)))) : PdK B f8Jn f8Jr u0 v R (Sp.bd M (fun z => Sp.bd (Sp.rw E d ctx z (decide (g = 1))) (fun y => K (Sp.fin (decide (g = 1)) y)))) := by
  unfold Sp.rwRest at hP
  rw [hpl] at hP
  have hP : PdK B f8Jn f8Jr u0 v R (Sp.bd (Sp.bd M (fun z => Sp.rw E d ctx z (decide (g = 1)))) (fun y => K (Sp.fin (decide (g = 1)) y))) := hP
  rw [bd_assoc] at hP
  exact hP
/-- what was made is asked instead -/
theorem red_end [DecidableEq Ob] {a : Int} {w : iST} (hM : FmJ u0 E B R Q d c x g row v0 T K) (hS : StJ E c x g row ctx v0 v) (gw : CG f8B f8W v w) (nt : NdD w E a) (hP : PdK B f8Jn f8Jr u0 w R (Sp.bd (Sp.rw E d ctx (oc w a) (decide (g = 1))) (fun y => K (Sp.fin (decide (g = 1)) y)))) (ht : t + T + 4 ≤ 24 * (v.1 31 - u0.1 31)) : pv_6_askInstead c a (fun u => ovp (t + 1) (pv_6_rewritten_20 Q (t + 1) u)) w := by
  have kz : RjK (c + 1) v w := RjK.of gw f8B_J f8W_J (by decide)
  have z31 : w.1 31 = v.1 31 := gw.2.2.1 31 (by decide)
  exact fr_instead (t := t + 1) hM (hS.1.tr kz (by omega)) (hS.2.1.keep (by rw [gw.2.2.1 23 (by decide)]; exact hS.2.1.1) (fun j hj _ => kz.2.1 j (by omega)) kz.2.2) hS.2.2.2.2.2 (hS.2.2.2.2.1.up hS.ct gw) nt hP (by rw [z31]; omega) (fun w h _ => h)
theorem lft_of [DecidableEq Ob] {o f : Ob} (h : o.isCallOf f = true) : Ob.lft o = f := by
  obtain ⟨b, eb⟩ := Ob.isCallOf_iff.mp h
  rw [eb]; rfl
theorem isCall_of [DecidableEq Ob] {o f : Ob} (h : o.isCallOf f = true) (hf : f ≠ Ob.quote) : o.isCall = true := by
  obtain ⟨b, eb⟩ := Ob.isCallOf_iff.mp h
  rw [eb]; exact decide_eq_true hf
theorem end_mono [DecidableEq Ob] (hK : ∀ a, Mono (K a)) : ∀ z : Ob, Mono (Sp.bd (Sp.rw E d ctx z (decide (g = 1))) (fun y => K (Sp.fin (decide (g = 1)) y))) := fun z => Mono.bd (rw_mono _ _ _ _) (nf_mono hK _)
/-- EQUAL -/
theorem st_equal [DecidableEq Ob] {m : Int} (hM : FmJ u0 E B R Q d c x g row v0 T K) (hS : StJ E c x g row ctx v0 v) (hs : v.2.1 51 (17 * c + 3) = 8) (h5 : v.2.1 51 (17 * c + 5) = m) (nm : NdC v E m) (hc : (oc v m).isCallOf Ob.equal = true) (hP : PdK B f8Jn f8Jr u0 v R (Sp.bd (Sp.rwRest E (Sp.rw E d ctx) ctx (oc v m) (decide (g = 1))) (fun y => K (Sp.fin (decide (g = 1)) y)))) (ht : t + T + 4 ≤ 24 * (v.1 31 - u0.1 31)) : pv_6_rewritten_20 Q t v := by
  have hC := hM.1
  have T0 := hM.2.2.2.2.2.2
  have hT := hS.ct
  have qe : Ob.equal ≠ Ob.quote := Ob.sym_ne (by decide)
  have qc : Ob.cons ≠ Ob.quote := Ob.sym_ne (by decide)
  have hcl := isCall_of hc qe
  refine hd_8 hS.2.1.1 hM.2.2.2.2.1 hS.2.2.1 (hC.turn hP hS.2.2.1 (by omega)) hs ?_
  rw [h5]
  refine pc_it hT nm hc qe (arOf_equal E) (by decide) (by decide) (fun a na ea => ?_)
  intro _ _ n1 en1 _
  rw [en1, h5]
  refine pc_it hT nm hc qe (arOf_equal E) (by decide) (by decide) (fun b nb eb => ?_)
  have ea : oc v a = (oc v m).item 1 := ea
  have eb : oc v b = (oc v m).item 2 := eb
  have hpl := plain_equal (lft_of hc)
  rw [← ea, ← eb] at hpl
  have iab := hT.1.inj na.1.1 na.1.2 nb.1.1 nb.1.2
  obtain ⟨n0, e0⟩ := NdC.known hT E 0 (o := Ob.nil) (by decide) (by decide) rfl rfl
  obtain ⟨n1', e1'⟩ := NdC.known hT E 1 (o := Ob.t) (by decide) (by decide) rfl rfl
  unfold pv_6_reduceEqual
  refine pc_isCallK 5 hT na.1 (by decide) (by decide) (o := Ob.cons) rfl (fun r1 hr1 => pc_isCallK 5 hT nb.1 (by decide) (by decide) (o := Ob.cons) rfl (fun r2 hr2 => ?_))
  have key : ∀ y0, (r1 = 0 → y0 = a) → (r1 ≠ 0 → y0 = b) → pv_6_reduceEqual_32 (fun u => ovp (t + 1) (pv_6_rewritten_20 Q (t + 1) u)) c a b r1 r2 y0 v := by
    intro y0 hy0 hy1
    unfold pv_6_reduceEqual_32
    refine ⟨fun hne => ?_, fun he => ?_⟩
    rotate_left
    · rw [if_pos (iab.mpr (Decidable.not_not.mp he)), ← e1'] at hpl
      exact red_fin hM hS n1' hpl hP ht
    rw [if_neg (fun q => hne (iab.mp q))] at hpl
    have e185 : Sp.plain (oc v m) = none → pv_6_reduceEqual_185 (fun u => ovp (t + 1) (pv_6_rewritten_20 Q (t + 1) u)) c v := by
      intro hn
      unfold pv_6_reduceEqual_185
      intro _ _ y1 f1 _
      exact red_look hM hS h5 nm hcl hn hP ht y1 f1
    have e136 : ¬ (r1 ≠ 0 ∧ r2 ≠ 0) → pv_6_reduceEqual_136 (fun u => ovp (t + 1) (pv_6_rewritten_20 Q (t + 1) u)) c r1 r2 y0 v := by
      intro hb
      have e146 : NdC v E y0 → (Sp.plain (oc v m) = if (oc v y0).isConst && !Ob.isPr (Ob.valOf (oc v y0)) then some (.inl Ob.nil) else none) → pv_6_reduceEqual_146 (fun u => ovp (t + 1) (pv_6_rewritten_20 Q (t + 1) u)) c y0 v := by
        intro ny hp
        unfold pv_6_reduceEqual_146
        refine pc_isConstant hT ny.1 (fun r3 hr3 => ⟨fun z => e185 ?_, fun z => ?_⟩)
        · rw [hp, hr3.f z]; rfl
        · rw [hr3.t z] at hp
          refine pc_valueOf hT ny.1 (fun vv nvv evv => pc_isPair hT nvv (fun r4 hr4 => ⟨fun z4 => e185 ?_, fun z4 => ?_⟩))
          · rw [hp, ← evv, hr4.t z4]; rfl
          · rw [← evv, hr4.f (Decidable.not_not.mp z4), ← e0] at hp
            exact red_fin hM hS n0 hp hP ht
      unfold pv_6_reduceEqual_136
      refine ⟨fun z1 => ?_, fun z1 => ?_⟩
      · have z2 : r2 = 0 := by
          by_cases q : r2 = 0
          · exact q
          · exact absurd ⟨z1, q⟩ hb
        rw [hr1.t z1, hr2.f z2] at hpl
        rw [hy1 z1]
        rw [hy1 z1] at e146
        refine e146 nb ?_
        rw [hpl]
        simp
      · have z1 := Decidable.not_not.mp z1
        refine ⟨fun z2 => e185 ?_, fun z2 => ?_⟩
        · rw [hpl, hr1.f z1, hr2.f z2]; simp
        · rw [hr1.f z1, hr2.t z2] at hpl
          rw [hy0 z1]
          rw [hy0 z1] at e146
          refine e146 na ?_
          rw [hpl]
          simp
    refine ⟨fun z1 => e136 (fun q => q.1 z1), fun z1 => ⟨fun z2 => e136 (fun q => q.2 z2), fun z2 => ?_⟩⟩
    have ha := hr1.t z1
    have hb := hr2.t z2
    rw [ha, hb, if_pos (by rfl)] at hpl
    have hP := red_ask hpl hP
    simp only [bd_assoc] at hP
    refine pc_it hT na ha qc (arOf_cons E) (by decide) (by decide) (fun a1 na1 ea1 => pc_it hT nb hb qc (arOf_cons E) (by decide) (by decide) (fun b1 nb1 eb1 => ?_))
    have ea1 : oc v a1 = (oc v a).item 1 := ea1
    have eb1 : oc v b1 = (oc v b).item 1 := eb1
    rw [← ea1, ← eb1] at hP
    have mn3 : ∀ y z : Ob, Mono (Sp.bd (Sp.mk3 Ob.ifS y z Ob.nil) (fun z => Sp.bd (Sp.rw E d ctx z (decide (g = 1))) (fun y => K (Sp.fin (decide (g = 1)) y)))) := fun y z => Mono.bd Mono.big (end_mono hM.2.2.2.1)
    refine pc_mk2 hP f8B_J f8W_J hC.2.2.1 (fun y => Mono.bd Mono.big (fun z => mn3 y z)) (kn_c hT 4 (o := Ob.equal) (by decide) (by decide) rfl) (Ob.sym_isSym _) qe (arOf_equal E) na1.d nb1.d (fun o1 w1 gw1 wd1 nt1 hP1 _ => ?_)
    obtain ⟨naw, eaw⟩ := na.up hT gw1
    obtain ⟨nbw, ebw⟩ := nb.up hT gw1
    refine pc_it gw1.1 naw (by rw [eaw]; exact ha) qc (arOf_cons E) (by decide) (by decide) (fun a2 na2 ea2 => pc_it gw1.1 nbw (by rw [ebw]; exact hb) qc (arOf_cons E) (by decide) (by decide) (fun b2 nb2 eb2 => ?_))
    have ea2 : oc w1 a2 = (oc v a).item 2 := by rw [ea2, eaw]; rfl
    have eb2 : oc w1 b2 = (oc v b).item 2 := by rw [eb2, ebw]; rfl
    rw [← ea2, ← eb2] at hP1
    refine pc_mk2 hP1 f8B_J f8W_J hC.2.2.1 (fun z => mn3 _ z) (kn_c gw1.1 4 (o := Ob.equal) (by decide) (by decide) rfl) (Ob.sym_isSym _) qe (arOf_equal E) na2.d nb2.d (fun o2 w2 gw2 wd2 nt2 hP2 _ => ?_)
    have nt1' := nt1.up gw1.1 gw2 wd2
    obtain ⟨n0', e0'⟩ := NdC.known gw2.1 E 0 (o := Ob.nil) (by decide) (by decide) rfl rfl
    have hP2' := hP2.cgm (m' := Sp.bd (Sp.mk3 Ob.ifS (oc w2 o1) (oc w2 o2) (oc w2 0)) (fun z => Sp.bd (Sp.rw E d ctx z (decide (g = 1))) (fun y => K (Sp.fin (decide (g = 1)) y)))) (fun h32 => by
      have h1 : w1.1 32 = 0 := by
        by_cases q : w1.1 32 = 0
        · exact q
        · exact absurd h32 (wd2 q)
      rw [((nt1.2.2 h1).up gw1.1 gw2).2, e0'])
    refine pc_mk3 hP2' f8B_J f8W_J hC.2.2.1 (end_mono hM.2.2.2.1) (kn_c gw2.1 3 (o := Ob.ifS) (by decide) (by decide) rfl) (Ob.sym_isSym _) ifq' (arOf_ifS E) nt1' nt2 n0'.d (fun o3 w3 gw3 wd3 nt3 hP3 _ => ?_)
    exact red_end hM hS ((gw1.tr gw2).tr gw3) nt3 hP3 ht
  exact ⟨fun z => key a (fun _ => rfl) (fun q => absurd z q), fun z => key b (fun q => absurd q z) (fun _ => rfl)⟩
/-- LESS -/
theorem st_less [DecidableEq Ob] {m : Int} (hM : FmJ u0 E B R Q d c x g row v0 T K) (hS : StJ E c x g row ctx v0 v) (hs : v.2.1 51 (17 * c + 3) = 9) (h5 : v.2.1 51 (17 * c + 5) = m) (nm : NdC v E m) (hc : (oc v m).isCallOf Ob.less = true) (hP : PdK B f8Jn f8Jr u0 v R (Sp.bd (Sp.rwRest E (Sp.rw E d ctx) ctx (oc v m) (decide (g = 1))) (fun y => K (Sp.fin (decide (g = 1)) y)))) (ht : t + T + 4 ≤ 24 * (v.1 31 - u0.1 31)) : pv_6_rewritten_20 Q t v := by
  have hC := hM.1
  have T0 := hM.2.2.2.2.2.2
  have hT := hS.ct
  have ql : Ob.less ≠ Ob.quote := Ob.sym_ne (by decide)
  have qh : Ob.height ≠ Ob.quote := Ob.sym_ne (by decide)
  have qm : Ob.minus ≠ Ob.quote := Ob.sym_ne (by decide)
  have hcl := isCall_of hc ql
  refine hd_9 hS.2.1.1 hM.2.2.2.2.1 hS.2.2.1 (hC.turn hP hS.2.2.1 (by omega)) hs ?_
  rw [h5]
  refine pc_it hT nm hc ql (arOf_less E) (by decide) (by decide) (fun a na ea => ?_)
  intro _ _ n1 en1 _
  rw [en1, h5]
  refine pc_it hT nm hc ql (arOf_less E) (by decide) (by decide) (fun b nb eb => ?_)
  have ea : oc v a = (oc v m).item 1 := ea
  have eb : oc v b = (oc v m).item 2 := eb
  have hpl := plain_less (lft_of hc)
  rw [← ea, ← eb] at hpl
  have iab := hT.1.inj na.1.1 na.1.2 nb.1.1 nb.1.2
  obtain ⟨n0, e0⟩ := NdC.known hT E 0 (o := Ob.nil) (by decide) (by decide) rfl rfl
  unfold pv_6_reduceLess
  refine pc_item hT na.1 (by decide) (fun i vi ei => pc_item hT nb.1 (by decide) (fun h vh eh => ?_))
  have ei : oc v i = (oc v a).item 1 := ei
  have eh : oc v h = (oc v b).item 1 := eh
  have iib := hT.1.inj vi.1 vi.2 nb.1.1 nb.1.2
  -- looked up
  have e240 : Sp.plain (oc v m) = none → pv_6_reduceLess_240 (fun u => ovp (t + 1) (pv_6_rewritten_20 Q (t + 1) u)) c v := by
    intro hn
    unfold pv_6_reduceLess_240
    intro _ _ y1 f1 _
    exact red_look hM hS h5 nm hcl hn hP ht y1 f1
  -- behind the first test
  have e127 : ∀ x6 x7, ¬ (oc v a = oc v b ∨ oc v b = Ob.nat 0) → (x6 ≠ 0 ↔ (Ob.isCallOf (oc v i) Ob.car || Ob.isCallOf (oc v i) Ob.cdr) = true) → (x7 ≠ 0 ↔ (Ob.isCallOf (oc v a) Ob.height && Ob.isCallOf (oc v b) Ob.height) = true) → pv_6_reduceLess_127 (fun u => ovp (t + 1) (pv_6_rewritten_20 Q (t + 1) u)) c a b i h x6 x7 v := by
    intro x6 x7 hno h6 h7
    rw [if_neg hno] at hpl
    have e173 : (Ob.isCallOf (oc v a) Ob.height && Ob.isCallOf (oc v b) Ob.height && (Ob.isCallOf (Ob.item (oc v a) 1) Ob.car || Ob.isCallOf (Ob.item (oc v a) 1) Ob.cdr) && decide (Ob.item (Ob.item (oc v a) 1) 1 = Ob.item (oc v b) 1)) = false → pv_6_reduceLess_173 (fun u => ovp (t + 1) (pv_6_rewritten_20 Q (t + 1) u)) c a b i v := by
      intro hf
      have hpl : Sp.plain (oc v m) = (if (Ob.isCallOf (oc v a) Ob.minus && decide (Ob.item (oc v a) 1 = oc v b) && Ob.isNat (Ob.item (oc v a) 2) && decide (0 < Ob.num (Ob.item (oc v a) 2))) = true then some (Sp.bd (Sp.pay 1) fun _ => Sp.mk2 Ob.less (.nat 0) (oc v b)) else none).map .inr := by
        rw [hpl]; unfold Sp.fal; rw [hf]; rfl
      unfold pv_6_reduceLess_173
      refine pc_isCallK 8 hT na.1 (by decide) (by decide) (o := Ob.minus) rfl (fun r7 hr7 => ⟨fun z => e240 ?_, fun z => ?_⟩)
      · rw [hpl, hr7.f z]; rfl
      have hmn := hr7.t z
      refine ⟨fun z2 => e240 ?_, fun z2 => ?_⟩
      · rw [hpl, hmn, ← ei, decide_eq_false (fun q => z2 (iib.mp q))]; rfl
      have z2 := Decidable.not_not.mp z2
      refine pc_item hT na.1 (by decide) (fun n2 vn2 en2 => pc_numberOf hT vn2 ?_)
      have en2 : oc v n2 = (oc v a).item 2 := en2
      refine ⟨fun z3 => e240 ?_, fun z3 => ?_⟩
      · rw [hpl, ← en2, decide_eq_false (show ¬ 0 < (oc v n2).num by omega), Bool.and_false]; rfl
      have hpos : 0 < (oc v n2).num := by omega
      have hpl2 : Sp.plain (oc v m) = some (.inr (Sp.bd (Sp.pay 1) fun _ => Sp.mk2 Ob.less (.nat 0) (oc v b))) := by
        rw [hpl, hmn, ← ei, decide_eq_true (iib.mpr z2), ← en2, num_nat hpos, decide_eq_true hpos]; rfl
      have hP := red_ask hpl2 hP
      rw [bd_assoc] at hP
      have mn1 : Mono (Sp.bd (Sp.mk2 Ob.less (.nat 0) (oc v b)) (fun z => Sp.bd (Sp.rw E d ctx z (decide (g = 1))) (fun y => K (Sp.fin (decide (g = 1)) y)))) := Mono.bd Mono.big (end_mono hM.2.2.2.1)
      have hrm := hP.payroom hC.2.2.1 mn1 hS.2.2.1
      refine pc_natural hT (by omega) (by decide) (by decide) (fun k1 w1 gw1 vk1 ek1 h29 => ?_)
      have hP1 := hP.pays gw1 h29
      obtain ⟨nbw, ebw⟩ := nb.up hT gw1
      have nk1 : NdC w1 E k1 := NdC.leaf vk1 (by rw [ek1]; rfl)
      refine pc_mk2 (by rw [ek1, ebw]; exact hP1) f8B_J f8W_J hC.2.2.1 (end_mono hM.2.2.2.1) (kn_c gw1.1 9 (o := Ob.less) (by decide) (by decide) rfl) (Ob.sym_isSym _) ql (arOf_less E) nk1.d nbw.d (fun o1 w2 gw2 wd2 nt2 hP2 _ => ?_)
      exact red_end hM hS ((gw1.mono f8M_B f8R_W).tr gw2) nt2 hP2 ht
    unfold pv_6_reduceLess_127
    refine ⟨fun z => e173 ?_, fun z => ⟨fun z2 => e173 ?_, fun z2 => ?_⟩⟩
    · have : (Ob.isCallOf (oc v a) Ob.height && Ob.isCallOf (oc v b) Ob.height) = false := bf_of (fun q => h7.mpr q z)
      rw [this]; rfl
    · have : (Ob.isCallOf (oc v i) Ob.car || Ob.isCallOf (oc v i) Ob.cdr) = false := bf_of (fun q => h6.mpr q z2)
      rw [ei] at this
      rw [this, Bool.and_false]; rfl
    have hh := h7.mp z
    have hs6 := h6.mp z2
    refine pc_item hT vi (by decide) (fun j vj ej => ?_)
    have ej : oc v j = Ob.item (Ob.item (oc v a) 1) 1 := by rw [ej, ei]; rfl
    have ijh := hT.1.inj vj.1 vj.2 vh.1 vh.2
    refine ⟨fun z3 => e173 ?_, fun z3 => ?_⟩
    · rw [← ej, ← eh, decide_eq_false (fun q => z3 (ijh.mp q)), Bool.and_false]
    have z3 := Decidable.not_not.mp z3
    have hpl2 : Sp.plain (oc v m) = some (.inr (Sp.mk1 Ob.consp (oc v h))) := by
      rw [hpl]; unfold Sp.fal
      rw [ei] at hs6
      rw [hh, hs6, ← ej, ← eh, decide_eq_true (ijh.mpr z3)]; rfl
    have hP := red_ask hpl2 hP
    have hbh : Ob.isCallOf (oc v b) Ob.height = true := by rw [Bool.and_eq_true] at hh; exact hh.2
    have nh : NdC v E h := nb.one hbh qh (arOf_height E) vh eh
    refine pc_mk1 hP f8B_J f8W_J hC.2.2.1 (end_mono hM.2.2.2.1) (kn_c hT 10 (o := Ob.consp) (by decide) (by decide) rfl) (Ob.sym_isSym _) (Ob.sym_ne (by decide)) (arOf_consp E) nh.d (fun o1 w1 gw1 wd1 nt1 hP1 _ => ?_)
    exact red_end hM hS gw1 nt1 hP1 ht
  have e88 : ∀ x6 x7, (x6 ≠ 0 ↔ (Ob.isCallOf (oc v i) Ob.car || Ob.isCallOf (oc v i) Ob.cdr) = true) → (x7 ≠ 0 ↔ (Ob.isCallOf (oc v a) Ob.height && Ob.isCallOf (oc v b) Ob.height) = true) → pv_6_reduceLess_88 (fun u => ovp (t + 1) (pv_6_rewritten_20 Q (t + 1) u)) c a b i h x6 x7 v := by
    intro x6 x7 h6 h7
    have e119 : (oc v a = oc v b ∨ oc v b = Ob.nat 0) → pv_6_reduceLess_119 (fun u => ovp (t + 1) (pv_6_rewritten_20 Q (t + 1) u)) v := by
      intro hy
      unfold pv_6_reduceLess_119
      rw [if_pos hy, ← e0] at hpl
      exact red_fin hM hS n0 hpl hP ht
    unfold pv_6_reduceLess_88
    refine ⟨fun z => e119 (Or.inl (iab.mpr z)), fun z => ?_⟩
    have nab : ¬ oc v a = oc v b := fun q => z (iab.mp q)
    refine pc_isNatural hT nb.1 (fun r6 hr6 => ⟨fun z6 => e127 x6 x7 ?_ h6 h7, fun z6 => ?_⟩)
    · have := hr6.f z6
      rintro (q | q)
      · exact nab q
      · rw [q] at this; cases this
    have hn := hr6.t z6
    have hz := nat_zeroC hn
    refine pc_numberOf hT nb.1 ⟨fun z7 => e127 x6 x7 ?_ h6 h7, fun z7 => e119 (Or.inr (hz.mpr (Decidable.not_not.mp z7)))⟩
    rintro (q | q)
    · exact nab q
    · exact z7 (hz.mp q)
  have e55 : ∀ x6, (x6 ≠ 0 ↔ (Ob.isCallOf (oc v i) Ob.car || Ob.isCallOf (oc v i) Ob.cdr) = true) → pv_6_reduceLess_55 (fun u => ovp (t + 1) (pv_6_rewritten_20 Q (t + 1) u)) c a b i h x6 v := by
    intro x6 h6
    unfold pv_6_reduceLess_55
    refine pc_isCallK 15 hT na.1 (by decide) (by decide) (o := Ob.height) rfl (fun r4 hr4 => ⟨fun z => ?_, fun z => ?_⟩)
    · unfold pv_6_reduceLess_87
      exact e88 x6 0 h6 ⟨fun q => absurd rfl q, fun q => by rw [hr4.f z] at q; cases q⟩
    · refine pc_isCallK 15 hT nb.1 (by decide) (by decide) (o := Ob.height) rfl (fun r5 hr5 => ⟨fun z2 => ?_, fun z2 => ?_⟩)
      · unfold pv_6_reduceLess_87
        exact e88 x6 0 h6 ⟨fun q => absurd rfl q, fun q => by rw [hr5.f z2, Bool.and_false] at q; cases q⟩
      · exact e88 x6 1 h6 ⟨fun _ => by rw [hr4.t z, hr5.t z2]; rfl, fun _ => by decide⟩
  refine pc_isCallK 11 hT vi (by decide) (by decide) (o := Ob.car) rfl (fun r3 hr3 => ⟨fun z => ?_, fun z => ?_⟩)
  · unfold pv_6_reduceLess_50
    exact e55 1 ⟨fun _ => by rw [hr3.t z]; rfl, fun _ => by decide⟩
  · refine pc_isCallK 12 hT vi (by decide) (by decide) (o := Ob.cdr) rfl (fun r4 hr4 => ⟨fun z2 => ?_, fun z2 => ?_⟩)
    · exact e55 0 ⟨fun q => absurd rfl q, fun q => by rw [hr3.f (Decidable.not_not.mp z), hr4.f z2] at q; cases q⟩
    · unfold pv_6_reduceLess_50
      exact e55 1 ⟨fun _ => by rw [hr4.t z2, Bool.or_true], fun _ => by decide⟩
end
