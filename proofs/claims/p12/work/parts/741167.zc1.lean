-- deps: 7999866
section
variable {α : Type} {δ : Nat} {u0 v0 v : iST} {E : Sp.Env} {B : Sz.Bx} {x g row c t T : Int} {R : EStateM.Result Unit Sz.Wk α} {Q : Int → iST → Prop} {K : Ob → Sz.M α} {ρ : List Ob → Ob → Bool → Sz.M Ob} {ctx : List Ob}
/-- what an IF is when its terms came out -/
theorem pc_choice_z [DecidableEq Ob] {a b e : Int} {K' : Ob → Sz.M α} {Q' : Int → iST → Prop} (hP : PdK_z B δ (f8Zz B) f8Jr u0 v R (Sp.bd (Sz.rwJoin (decide (g = 1)) (oc v a) (oc v b) (oc v e)) K')) (fit : Fit_z B R) (hK : ∀ a, Mono_z (K' a)) (na : NdC v E a) (nb : NdC v E b) (ne : NdC v E e)
    (hq : ∀ t w, CG f8B f8W v w → (v.1 32 ≠ 0 → w.1 32 ≠ 0) → NdD w E t → PdK_z B (δ + 600) (f8Zz B) f8Jr u0 w R (K' (oc w t)) → (t = -1 → w.1 32 ≠ 0) → Q' t w) : pv_6_choice a b e g Q' v := by
  have hT := hP.1.1
  have stay : ∀ t, NdC v E t → PdK_z B δ (f8Zz B) f8Jr u0 v R (K' (oc v t)) → Q' t v := fun t nt hp => hq t v (CG.rf hT) id nt.d hp.w (fun z => by have := nt.1.1; omega)
  have i1 : b = e ↔ oc v b = oc v e := (hT.1.inj nb.1.1 nb.1.2 ne.1.1 ne.1.2).symm
  have kb1 := katC hT 1 (o := Ob.t) (by decide) (by decide) rfl nb.1.1 nb.1.2
  have kb0 := katC hT 0 (o := Ob.nil) (by decide) (by decide) rfl nb.1.1 nb.1.2
  have ke1 := katC hT 1 (o := Ob.t) (by decide) (by decide) rfl ne.1.1 ne.1.2
  have ke0 := katC hT 0 (o := Ob.nil) (by decide) (by decide) rfl ne.1.1 ne.1.2
  unfold Sz.rwJoin at hP
  unfold pv_6_choice
  refine ⟨fun hne => ?_, fun he => ?_⟩
  rotate_left
  · rw [if_pos (i1.mp (Decidable.not_not.mp he))] at hP
    exact stay b nb hP
  rw [if_neg (fun z => hne (i1.mpr z))] at hP
  have c35 : ¬ (oc v b = Ob.t ∧ oc v e = Ob.nil ∧ (decide (g = 1) = true ∨ (oc v a).isBool = true)) → pv_6_choice_35 Q' a b e v := by
    intro h
    rw [if_neg h] at hP
    have c57 : ¬ (oc v b = Ob.nil ∧ oc v e = Ob.t) → pv_6_choice_57 Q' a b e v := by
      intro h2
      rw [if_neg h2] at hP
      unfold pv_6_choice_57
      exact pc_mk3_z hP f8B_Z f8W_J fit hK (kn_c hT 3 (o := Ob.ifS) (by decide) (by decide) rfl) (Ob.sym_isSym _) (Ob.sym_ne (by decide)) (arOf_ifS E) na.d nb.d ne.d hq
    unfold pv_6_choice_35
    refine ⟨fun z => c57 (fun q => z (kb0.mpr q.1)), fun z => ⟨fun z2 => c57 (fun q => z2 (ke1.mpr q.2)), fun z2 => ?_⟩⟩
    rw [if_pos ⟨kb0.mp (Decidable.not_not.mp z), ke1.mp (Decidable.not_not.mp z2)⟩] at hP
    exact pc_mk1_z hP f8B_Z f8W_J fit hK (kn_c hT 16 (o := Ob.not) (by decide) (by decide) rfl) (Ob.sym_isSym _) (Ob.sym_ne (by decide)) (arOf_not E) na.d hq
  refine ⟨fun z => c35 (fun q => z (kb1.mpr q.1)), fun z => ⟨fun z2 => c35 (fun q => z2 (ke0.mpr q.2.1)), fun z2 => ?_⟩⟩
  have y1 := kb1.mp (Decidable.not_not.mp z)
  have y2 := ke0.mp (Decidable.not_not.mp z2)
  refine ⟨fun zg => ?_, fun zg => ?_⟩
  · rw [if_pos ⟨y1, y2, Or.inl (decide_eq_true zg)⟩] at hP
    exact stay a na hP
  · refine pc_isBoolean hT na.1 (fun r hr => ⟨fun z3 => c35 (fun q => ?_), fun z3 => ?_⟩)
    · rcases q.2.2 with q | q
      · exact zg (of_decide_eq_true q)
      · have := hr.f z3
        rw [q] at this; cases this
    · rw [if_pos ⟨y1, y2, Or.inr (hr.t z3)⟩] at hP
      exact stay a na hP
theorem st_else_z [DecidableEq Ob] {a b e : Int} (hM : FmJ_z u0 E B R Q ρ c x g row v0 T K) (hS : StJ_z B E c x g row ctx v0 v) (hs : v.2.1 51 (17 * c + 3) = 4) (h5 : v.2.1 51 (17 * c + 5) = a) (h7 : v.2.1 51 (17 * c + 7) = b) (h24 : v.1 24 = e) (na : NdC v E a) (nb : NdC v E b) (ne : NdC v E e) (hP : PdK_z B δ (f8Zz B) f8Jr u0 v R (Sp.bd (Sz.rwJoin (decide (g = 1)) (oc v a) (oc v b) (oc v e)) K)) (ht : t + T + 1 ≤ 24 * (v.1 31 + zz B v.1 - (u0.1 31 + zz B u0.1))) : pv_6_rewritten_20 Q t v := by
  have hP := hP.zero (δ' := 0) hS.2.2.1
  have hC := hM.1
  have T0 := hM.2.2.2.2.2.2
  refine hd_4 hS.2.1.1 hM.2.2.2.2.1 hS.2.2.1 (hC.turn hP hS.2.2.1 (by omega)) hs ?_
  rw [h5, h7, h24, hS.2.1.2.2.1]
  refine pc_choice_z hP hC.2.2.1 hM.2.2.2.1 na nb ne (fun o w gw wd nt hPw _ => ?_)
  have kw : RjK_z B (c + 1) v w := RjK_z.of gw f8B_Z f8W_J (by decide)
  have w31 : w.1 31 + zz B w.1 = v.1 31 + zz B v.1 := zsE (gw.2.2.1 31 (by decide)) (gw.2.2.1 28 (by decide))
  exact fr_fin_z (t := t + 1) hM (hS.1.tr kw (by omega)) (hS.2.1.keep (by rw [gw.2.2.1 23 (by decide)]; exact hS.2.1.1) (fun j hj => kw.2.1 j (by omega))) nt hPw (by rw [w31]; omega) (fun w h _ => h)
theorem st_then_z [DecidableEq Ob] {a b rr : Int} (hM : FmJ_z u0 E B R Q ρ c x g row v0 T K) (hS : StJ_z B E c x g row ctx v0 v) (hs : v.2.1 51 (17 * c + 3) = 3) (h5 : v.2.1 51 (17 * c + 5) = a) (h6 : v.2.1 51 (17 * c + 6) = rr) (h24 : v.1 24 = b) (na : NdC v E a) (nb : NdC v E b) (nr : NdC v E rr) (hP : PdK_z B δ (f8Zz B) f8Jr u0 v R (Sp.bd (Sz.mkNot (oc v a)) (fun nA => Sp.bd (Sz.pay (Sz.row (ctx ++ [nA])) 1) (fun _ => Sp.bd (ρ (ctx ++ [nA]) (oc v rr) (decide (g = 1))) (fun e => Sp.bd (Sz.rwJoin (decide (g = 1)) (oc v a) (oc v b) e) K))))) (ht : t + T + 2 ≤ 24 * (v.1 31 + zz B v.1 - (u0.1 31 + zz B u0.1))) : pv_6_rewritten_20 Q t v := by
  have hP := hP.zero (δ' := 0) hS.2.2.1
  have hC := hM.1
  have T0 := hM.2.2.2.2.2.2
  have hT := hS.ct
  refine hd_3 hS.2.1.1 hM.2.2.2.2.1 hS.2.2.1 (hC.turn hP hS.2.2.1 (by omega)) hs ?_
  unfold pv_6_goOnWithThen
  intro n1 en1 _ _ _ y1 e1 _ _ y2 e2 _ _ n2 en2 _
  rw [en1, h24] at e1
  obtain ⟨k1, m1, c1, r1, s1, q1⟩ := fr_set_z (B := B) hT e1 (by decide)
  obtain ⟨k2, m2, c2, r2, s2, q2⟩ := fr_set_z (B := B) k1.1.1 e2 (by decide)
  have hS2 := (hS.set e1 (by decide)).set e2 (by decide)
  have hP2 := (hP.setA e1).setA e2
  have ec : ∀ k, oc y2 k = oc v k := oc_same (by rw [c2, c1])
  have up : ∀ {k}, NdC v E k → NdC y2 E k := fun {k} h => ((h.up hT k1.1).1.up k1.1.1 k2.1).1
  rw [en2, s2 _ (by omega), s1 _ (by omega), h5]
  have mn : ∀ nA : Ob, Mono_z (Sp.bd (Sz.pay (Sz.row (ctx ++ [nA])) 1) (fun _ => Sp.bd (ρ (ctx ++ [nA]) (oc v rr) (decide (g = 1))) (fun e => Sp.bd (Sz.rwJoin (decide (g = 1)) (oc v a) (oc v b) e) K))) := fun nA => Mono_z.bd Mono_z.pay (fun _ => Mono_z.bd (hM.2.2.2.2.2.1 _ _ _) (fun e => Mono_z.bd rwJoin_mono_z hM.2.2.2.1))
  refine pc_negated_z (by rw [ec]; exact hP2) f8B_Z f8W_J hC.2.2.1 mn (up na) (fun o w gw wd nt hPw _ => ?_)
  intro n4 en4 _
  rw [en4]
  refine ⟨fun z _ => rj_dead_z hC hPw z, fun z => ?_⟩
  have w32 := Decidable.not_not.mp z
  have nO := nt.2.2 w32
  have kw : RjK_z B (c + 1) y2 w := RjK_z.of gw f8B_Z f8W_J (by decide)
  have hSw := hS2.gen gw f8B_Z f8W_J (by decide) (by decide) w32
  have fr : ∀ j, j < 17 * (c + 1) → j ≠ 17 * c + 3 → j ≠ 17 * c + 7 → w.2.1 51 j = v.2.1 51 j := fun j h1 h2 h3 => by rw [kw.2.1 j h1, s2 j h2, s1 j h3]
  intro _ _ n5 en5 _ _ _ n6 en6 _ _ _ n7 en7 _
  rw [en5, fr _ (by omega) (by omega) (by omega), h6, en6, hSw.2.1.2.2.1, en7, hSw.2.1.2.2.2.1]
  have hm := hPw.payroom hC.2.2.1 (Mono_z.bd (hM.2.2.2.2.2.1 _ _ _) (fun e => Mono_z.bd rwJoin_mono_z hM.2.2.2.1)) w32
  rw [row_add hSw.2.2.2.2.1 _] at hm
  refine pc_pairE gw.1 nO.1 hSw.2.2.2.2.1.1 (hm.imp (fun q => by omega) id) (fun kk z gz vk ek h29 hex => ?_)
  have hPz := hPw.pays gz f8B_Z f8W_J ⟨kk, vk, by rw [ek, row_add hSw.2.2.2.2.1 _]⟩ h29 (by rw [row_add hSw.2.2.2.2.1 _]; exact hex)
  have z32 : z.1 32 = 0 := by rw [gz.2.2.1 32 (by decide)]; exact w32
  have hSz := hSw.gen gz f8M_Z f8R_J (by decide) (by decide) z32
  have gyz : CG (f8Zz B) f8Jr y2 z := (gw.mono f8B_Z f8W_J).tr (gz.mono f8M_Z f8R_J)
  have upz : ∀ {k}, NdC v E k → NdC z E k ∧ oc z k = oc v k := fun {k} h => ⟨((up h).up k2.1.1 gyz).1, by rw [((up h).up k2.1.1 gyz).2, ec]⟩
  have z31 : z.1 31 + zz B z.1 = v.1 31 + zz B v.1 := zsE (by rw [gz.2.2.1 31 (by decide), gw.2.2.1 31 (by decide), m2, m1]) (by rw [gz.2.2.1 28 (by decide), gw.2.2.1 28 (by decide), m2, m1])
  refine fr_ask_z (t := t + 1) (k := 1) hM hSz (upz nr).1 (hSw.2.2.2.2.1.add nO vk ek) hSz.2.2.2.2.2 (fun e => Mono_z.bd rwJoin_mono_z hM.2.2.2.1) (by rw [(upz nr).2]; exact hPz) (by decide) (by rw [z31]; omega) (fun w h _ => h) (fun w' e t' hSw' kw' ne w24 hPw' ht' => ?_)
  have fr2 : ∀ j, j < 17 * (c + 1) → w'.2.1 51 j = y2.2.1 51 j := fun j hj => by rw [kw'.2.1 j hj, gz.2.2.2 51 (by decide), kw.2.1 j hj]
  have upw : ∀ {k}, NdC v E k → NdC w' E k ∧ oc w' k = oc v k := fun {k} h => ⟨((upz h).1.up gz.1 kw'.1).1, by rw [((upz h).1.up gz.1 kw'.1).2, (upz h).2]⟩
  exact st_else_z hM hSw' (by rw [fr2 _ (by omega)]; exact q2) (by rw [fr2 _ (by omega), s2 _ (by omega), s1 _ (by omega)]; exact h5) (by rw [fr2 _ (by omega), s2 _ (by omega)]; exact q1) w24 (upw na).1 (upw nb).1 ne (by rw [(upw na).2, (upw nb).2]; exact hPw') (by omega)
/-- the test of an IF came out -/
theorem st_test_z [DecidableEq Ob] {a : Int} (hM : FmJ_z u0 E B R Q ρ c x g row v0 T K) (hS : StJ_z B E c x g row ctx v0 v) (hs : v.2.1 51 (17 * c + 3) = 2) (h24 : v.1 24 = a) (na : NdC v E a) (hx : (oc v x).isCallOf Ob.ifS = true) (hP : PdK_z B δ (f8Zz B) f8Jr u0 v R (Sp.bd (Sz.rwIf ρ ctx (oc v x) (oc v a) (decide (g = 1))) K)) (ht : t + T + 2 ≤ 24 * (v.1 31 + zz B v.1 - (u0.1 31 + zz B u0.1))) : pv_6_rewritten_20 Q t v := by
  have hP := hP.zero (δ' := 0) hS.2.2.1
  have hC := hM.1
  have T0 := hM.2.2.2.2.2.2
  have hT := hS.ct
  have nx := hS.2.2.2.1
  have ifq : Ob.ifS ≠ Ob.quote := Ob.sym_ne (by decide)
  refine hd_2 hS.2.1.1 hM.2.2.2.2.1 hS.2.2.1 (hC.turn hP hS.2.2.1 (by omega)) hs ?_
  unfold pv_6_goOnWithTest
  intro _ _ n1 en1 _
  rw [en1, hS.2.1.2.1]
  refine pc_it hT nx hx ifq (arOf_ifS E) (by decide) (by decide) (fun yes nyes eyes => ?_)
  intro _ _ n3 en3 _
  rw [en3, hS.2.1.2.1]
  refine pc_it hT nx hx ifq (arOf_ifS E) (by decide) (by decide) (fun no nno eno => ?_)
  have eyes : oc v yes = (oc v x).item 2 := eyes
  have eno : oc v no = (oc v x).item 3 := eno
  intro n5 en5 _
  rw [en5, h24]
  unfold Sz.rwIf at hP
  refine pc_isConstant hT na.1 (fun r hr => ⟨fun z => ?_, fun z => ?_⟩)
  rotate_left
  · rw [if_pos (hr.t z)] at hP
    intro n18 en18 _
    have n0 := oc_nil hT na.1
    rw [en18, h24]
    unfold pv_6_goOnWithTest_52
    refine ⟨fun z0 => ?_, fun z0 => ?_⟩
    · rw [if_pos (n0.mp z0), ← eno] at hP
      exact fr_instead_z (t := t + 1) hM hS.1 hS.2.1 hS.2.2.2.2.2 hS.2.2.2.2.1 nno.d hP (by omega) (fun w h _ => h)
    · rw [if_neg (fun q => z0 (n0.mpr q)), ← eyes] at hP
      exact fr_instead_z (t := t + 1) hM hS.1 hS.2.1 hS.2.2.2.2.2 hS.2.2.2.2.1 nyes.d hP (by omega) (fun w h _ => h)
  rw [if_neg (by rw [hr.f z]; decide)] at hP
  -- both ways
  have go : ∀ (ex m one two : Int), NdC v E m → NdC v E one → NdC v E two → PdK_z B 0 (f8Zz B) f8Jr u0 v R (Sp.bd (Sz.pay (Sz.row (ctx ++ [oc v m])) 1) (fun _ => Sp.bd (ρ (ctx ++ [oc v m]) (oc v one) (decide (g = 1))) (fun b => Sp.bd (Sz.mkNot (oc v m)) (fun nA => Sp.bd (Sz.pay (Sz.row (ctx ++ [nA])) 1) (fun _ => Sp.bd (ρ (ctx ++ [nA]) (oc v two) (decide (g = 1))) (fun e => Sp.bd (Sz.rwJoin (decide (g = 1)) (oc v m) b e) K)))))) → (ex = 0 → one = yes ∧ two = no) → (ex ≠ 0 → one = no ∧ two = yes) → pv_6_goOnWithTest_97 (fun u => ovp (t + 1) (pv_6_rewritten_20 Q (t + 1) u)) c yes no ex c 5 m v := by
    intro ex m one two nm none ntwo hP he0 he1
    have mn3 : ∀ b nA : Ob, Mono_z (Sp.bd (Sz.pay (Sz.row (ctx ++ [nA])) 1) (fun _ => Sp.bd (ρ (ctx ++ [nA]) (oc v two) (decide (g = 1))) (fun e => Sp.bd (Sz.rwJoin (decide (g = 1)) (oc v m) b e) K))) := fun b nA => Mono_z.bd Mono_z.pay (fun _ => Mono_z.bd (hM.2.2.2.2.2.1 _ _ _) (fun e => Mono_z.bd rwJoin_mono_z hM.2.2.2.1))
    -- the terms chosen
    have g111 : ∀ y1 : iST, y1 = iA v 51 (17 * c + 5) m → pv_6_goOnWithTest_111 (fun u => ovp (t + 1) (pv_6_rewritten_20 Q (t + 1) u)) c yes no ex c 6 two y1 := by
      intro y1 e1
      obtain ⟨k1, m1, c1, r1, s1, q1⟩ := fr_set_z (B := B) hT e1 (by decide)
      have g127 : ∀ y3 : iST, ∀ y2 : iST, y2 = iA y1 51 (17 * c + 6) two → y3 = iA y2 51 (17 * c + 3) 3 → pv_6_goOnWithTest_127 (fun u => ovp (t + 1) (pv_6_rewritten_20 Q (t + 1) u)) c one y3 := by
        intro y3 y2 e2 e3
        obtain ⟨k2, m2, c2, r2, s2, q2⟩ := fr_set_z (B := B) k1.1.1 e2 (by decide)
        obtain ⟨k3, m3, c3, r3, s3, q3⟩ := fr_set_z (B := B) k2.1.1 e3 (by decide)
        have hS3 := ((hS.set e1 (by decide)).set e2 (by decide)).set e3 (by decide)
        have hP3 := ((hP.setA e1).setA e2).setA e3
        have ec : ∀ k, oc y3 k = oc v k := oc_same (by rw [c3, c2, c1])
        have g3 := (k1.1.tr k2.1).tr k3.1
        have up : ∀ {k}, NdC v E k → NdC y3 E k := fun {k} h => (h.up hT g3).1
        unfold pv_6_goOnWithTest_127
        intro _ _ n10 en10 _ _ _ n11 en11 _ _ _ n12 en12 _
        rw [en10, hS3.2.1.2.2.1, en11, s3 _ (by omega), s2 _ (by omega), q1, en12, hS3.2.1.2.2.2.1]
        have hm := hP3.payroom hC.2.2.1 (Mono_z.bd (hM.2.2.2.2.2.1 _ _ _) (fun b => Mono_z.bd Mono_z.not (fun nA => mn3 b nA))) hS3.2.2.1
        rw [← ec m, row_add hS3.2.2.2.2.1 _] at hm
        refine pc_pairE k3.1.1 (up nm).1 hS3.2.2.2.2.1.1 (hm.imp (fun q => by omega) id) (fun kk z gz vk ek h29 hex => ?_)
        have hPz := hP3.pays gz f8B_Z f8W_J ⟨kk, vk, by rw [ek, ← ec m, row_add hS3.2.2.2.2.1 _]⟩ h29 (by rw [← ec m, row_add hS3.2.2.2.2.1 _]; exact hex)
        have z32 : z.1 32 = 0 := by rw [gz.2.2.1 32 (by decide)]; exact hS3.2.2.1
        have hSz := hS3.gen gz f8M_Z f8R_J (by decide) (by decide) z32
        have gvz : CG (f8Zz B) f8Jr v z := g3.tr (gz.mono f8M_Z f8R_J)
        have upz : ∀ {k}, NdC v E k → NdC z E k ∧ oc z k = oc v k := fun {k} h => h.up hT gvz
        have z31 : z.1 31 + zz B z.1 = v.1 31 + zz B v.1 := zsE (by rw [gz.2.2.1 31 (by decide), m3, m2, m1]) (by rw [gz.2.2.1 28 (by decide), m3, m2, m1])
        have cx' := hS3.2.2.2.2.1.add (up nm) vk ek
        rw [ec] at cx'
        refine fr_ask_z (t := t + 1) (k := 1) hM hSz (upz none).1 cx' hSz.2.2.2.2.2 (fun b => Mono_z.bd Mono_z.not (fun nA => mn3 b nA)) (by rw [(upz none).2]; exact hPz) (by decide) (by rw [z31]; omega) (fun w h _ => h) (fun w' b t' hSw' kw' nb w24 hPw' ht' => ?_)
        have fr2 : ∀ j, j < 17 * (c + 1) → w'.2.1 51 j = y3.2.1 51 j := fun j hj => by rw [kw'.2.1 j hj, gz.2.2.2 51 (by decide)]
        have upw : ∀ {k}, NdC v E k → NdC w' E k ∧ oc w' k = oc v k := fun {k} h => h.up hT (gvz.tr kw'.1)
        exact st_then_z hM hSw' (by rw [fr2 _ (by omega)]; exact q3) (by rw [fr2 _ (by omega), s3 _ (by omega), s2 _ (by omega)]; exact q1) (by rw [fr2 _ (by omega), s3 _ (by omega)]; exact q2) w24 (upw nm).1 nb (upw ntwo).1 (by rw [(upw nm).2, (upw ntwo).2]; exact hPw') (by omega)
      unfold pv_6_goOnWithTest_111
      intro _ _ y2 e2 _ _ y3 e3
      refine ⟨fun z => ?_, fun z => ?_⟩
      · rw [← (he0 z).1]; exact g127 y3 y2 e2 e3
      · rw [← (he1 z).1]; exact g127 y3 y2 e2 e3
    unfold pv_6_goOnWithTest_97
    intro _ _ y1 e1
    refine ⟨fun z => ?_, fun z => ?_⟩
    · have := g111 y1 e1
      rw [(he0 z).2] at this
      exact this
    · have := g111 y1 e1
      rw [(he1 z).2] at this
      exact this
  intro n7 en7 _
  rw [en7, h24]
  refine pc_isCallK 16 hT na.1 (by decide) (by decide) (o := Ob.not) rfl (fun r2 hr2 => ⟨fun z2 => ?_, fun z2 => ?_⟩)
  · have hf := hr2.f z2
    rw [hf] at hP
    intro n9 en9 _
    rw [en9, h24]
    refine go r2 a yes no na nyes nno ?_ (fun _ => ⟨rfl, rfl⟩) (fun z => absurd z2 z)
    rw [eyes, eno]
    simp only [bd_assoc] at hP
    exact hP
  · have hf := hr2.t z2
    rw [hf] at hP
    intro n16 en16 _
    rw [en16, h24]
    refine pc_it hT na hf (Ob.sym_ne (by decide)) (arOf_not E) (by decide) (by decide) (fun m nm em => ?_)
    have em : oc v m = (oc v a).item 1 := em
    refine go r2 m no yes nm nno nyes ?_ (fun z => absurd z z2) (fun _ => ⟨rfl, rfl⟩)
    rw [eyes, eno, em]
    simp only [bd_assoc] at hP
    exact hP
/-- the term within a NOT came out -/
theorem st_neg_z [DecidableEq Ob] {a : Int} (hM : FmJ_z u0 E B R Q ρ c x g row v0 T K) (hS : StJ_z B E c x g row ctx v0 v) (hs : v.2.1 51 (17 * c + 3) = 5) (h24 : v.1 24 = a) (na : NdC v E a) (hP : PdK_z B δ (f8Zz B) f8Jr u0 v R (Sp.bd (Sz.rwNot ctx (oc v a) (decide (g = 1))) K)) (ht : t + T + 1 ≤ 24 * (v.1 31 + zz B v.1 - (u0.1 31 + zz B u0.1))) : pv_6_rewritten_20 Q t v := by
  have hP := hP.zero (δ' := 0) hS.2.2.1
  have hC := hM.1
  have T0 := hM.2.2.2.2.2.2
  have hT := hS.ct
  refine hd_5 hS.2.1.1 hM.2.2.2.2.1 hS.2.2.1 (hC.turn hP hS.2.2.1 (by omega)) hs ?_
  unfold Sz.rwNot at hP
  rw [bd_assoc] at hP
  have mn : ∀ x : Ob, Mono_z (Sp.bd (Sz.ret (if Ob.isConst x then x else Sp.look ctx x (decide (g = 1)))) K) := fun x => Mono_z.bd Mono_z.ret hM.2.2.2.1
  -- what was made
  have fin : ∀ o w, CG f8B f8W v w → (v.1 32 ≠ 0 → w.1 32 ≠ 0) → NdD w E o → PdK_z B 600 (f8Zz B) f8Jr u0 w R (Sp.bd (Sz.ret (if Ob.isConst (oc w o) then oc w o else Sp.look ctx (oc w o) (decide (g = 1)))) K) → (o = -1 → w.1 32 ≠ 0) → pv_6_goOnWithNegation_83 (fun u => ovp (t + 1) (pv_6_rewritten_20 Q (t + 1) u)) c o w := by
    intro o w gw wd nt hPw hno
    have hPw := hPw.retd
    have kw : RjK_z B (c + 1) v w := RjK_z.of gw f8B_Z f8W_J (by decide)
    have w31 : w.1 31 + zz B w.1 = v.1 31 + zz B v.1 := zsE (gw.2.2.1 31 (by decide)) (gw.2.2.1 28 (by decide))
    have hF := hS.2.1.keep (w := w) (by rw [gw.2.2.1 23 (by decide)]; exact hS.2.1.1) (fun j hj => kw.2.1 j (by omega))
    have kw0 : RjK_z B c v0 w := hS.1.tr kw (by omega)
    have cx := hS.2.2.2.2.1.up hT gw
    have en : ∀ r, NdD w E r → (w.1 32 = 0 → oc w r = if Ob.isConst (oc w o) then oc w o else Sp.look ctx (oc w o) (decide (g = 1))) → pv_6_goOnWithNegation_111 (fun u => ovp (t + 1) (pv_6_rewritten_20 Q (t + 1) u)) r w := by
      intro r nr er
      unfold pv_6_goOnWithNegation_111
      refine fr_fin_z (δ := 600) (t := t + 1) hM kw0 hF nr ?_ (by rw [w31]; omega) (fun w h _ => h)
      by_cases h32 : w.1 32 = 0
      · rw [er h32]; exact hPw
      · obtain ⟨s, hd, e⟩ := hPw.dead (δ' := 600) h32
        exact ⟨hPw.1, Or.inr ⟨s, hd, e⟩⟩
    unfold pv_6_goOnWithNegation_83
    by_cases h32 : w.1 32 = 0
    · have no := nt.2.2 h32
      refine pc_isConstant gw.1 no.1 (fun r hr => ⟨fun z => ?_, fun z => en o nt (fun _ => by rw [if_pos (hr.t z)])⟩)
      intro _ _ n6 en6 _ _ _ n7 en7 _
      rw [en6, hF.2.2.1, en7, hF.2.2.2.1]
      refine pc_lookedUp gw.1 no cx (fun r2 n2 e2 => en r2 n2.d (fun _ => ?_))
      rw [if_neg (by rw [hr.f z]; decide)]
      exact e2
    · refine pc_isConstantA gw.1 ⟨nt.1, nt.2.1⟩ (fun r => ⟨fun z => ?_, fun z => en o nt (fun z => absurd z h32)⟩)
      intro _ _ n6 en6 _ _ _ n7 en7 _
      rw [en6, hF.2.2.1, en7, hF.2.2.2.1]
      exact pc_lookedUpD gw.1 ⟨nt.1, nt.2.1⟩ cx.1 (fun r2 h1 h2 => en r2 ⟨h1, h2, fun z => absurd z h32⟩ (fun z => absurd z h32))
  have plain : (Ob.isCallOf (oc v a) Ob.not && !Ob.isBool (Ob.item (oc v a) 1) && !decide (g = 1)) = false → pv_6_goOnWithNegation_48 (fun u => ovp (t + 1) (pv_6_rewritten_20 Q (t + 1) u)) c v := by
    intro hf
    rw [hf, if_neg (by decide)] at hP
    unfold pv_6_goOnWithNegation_48 pv_6_goOnWithNegation_49
    refine ⟨fun _ => ?_, fun z => absurd rfl z⟩
    intro n3 en3 _
    rw [en3, h24]
    exact pc_negated_z hP f8B_Z f8W_J hC.2.2.1 mn na (fun o w gw wd nt hPw hno => fin o w gw wd nt hPw hno)
  unfold pv_6_goOnWithNegation
  intro n1 en1 _
  rw [en1, h24]
  refine pc_isCallK 16 hT na.1 (by decide) (by decide) (o := Ob.not) rfl (fun r1 hr1 => ⟨fun z => plain ?_, fun z => ?_⟩)
  · rw [hr1.f z]; rfl
  intro _ _ n12 en12 _
  rw [en12, hS.2.1.2.2.1]
  refine ⟨fun zg => plain ?_, fun zg => ?_⟩
  · have : g = 1 := by rcases hS.2.2.2.2.2 with q | q <;> omega
    rw [decide_eq_true this]; simp
  have zg := Decidable.not_not.mp zg
  intro n13 en13 _
  rw [en13, h24]
  have hn := hr1.t z
  refine pc_it hT na hn (Ob.sym_ne (by decide)) (arOf_not E) (by decide) (by decide) (fun m nm em => ?_)
  have em : oc v m = (oc v a).item 1 := em
  refine pc_isBoolean hT nm.1 (fun r2 hr2 => ⟨fun z2 => plain ?_, fun z2 => ?_⟩)
  · have := hr2.t z2
    rw [em] at this
    rw [this]; simp
  have hb := hr2.f (Decidable.not_not.mp z2)
  rw [em] at hb
  rw [if_pos (by rw [hn, hb, decide_eq_false (show ¬ g = 1 by omega)]; rfl)] at hP
  unfold pv_6_goOnWithNegation_49
  refine ⟨(fun z => by cases z), fun _ => ?_⟩
  intro n10 en10 _
  rw [en10, h24]
  exact pc_mk1_z hP f8B_Z f8W_J hC.2.2.1 mn (kn_c hT 16 (o := Ob.not) (by decide) (by decide) rfl) (Ob.sym_isSym _) (Ob.sym_ne (by decide)) (arOf_not E) na.d (fun o w gw wd nt hPw hno => fin o w gw wd nt hPw hno)
/-- the parameters of a definition are bound to a call's terms -/
theorem pc_bound_z [DecidableEq Ob] {m r dd : Int} {Q : iST → Prop} {v : iST} {E : Sp.Env} (hT : CT v) (hE : EnvZ v E) (nm : NdC v E m) (hc : (oc v m).isCall = true) (d0 : 0 ≤ dd) (d1 : dd < v.1 0) (hd : E.dfn (Ob.lft (oc v m)) = some (dfnC v dd)) (vr : VN v r) (er : oc v r = Ob.rgt (oc v m))
    (hq : ∀ w, CG f8b f8m v w → BnOk w → bdL w = (dfnC v dd).params.zip (Ob.toList (Ob.rgt (oc v m))) → (∀ x, Ob.isVar x = true → Ob.wt (Sp.arOf E) (Ob.lkD (bdL w) x) ∧ (Ob.lkD (bdL w) x).sz ≤ 120) → Q w) : pv_10_bindRow (v.2.1 1 dd) r Q v := by
  obtain ⟨l, e1, e2, e3, e4, e5, e6, e7⟩ := nm.args hc
  obtain ⟨p1, p2, ⟨p3, p4, p5, p6⟩, p7, p8⟩ := hE.1.2.2 dd d0 d1
  have hnm := (dfn_mem hd).2
  have hnm : oc v (v.2.1 0 dd) = Ob.lft (oc v m) := hnm
  have nb := (isName_base p2).1
  rw [hnm] at nb
  have har := (arOf_ne (E := E) (f := Ob.lft (oc v m)) (by omega) nb).2 _ hd
  have hpl : (dfnC v dd).params = Ob.toList (oc v (v.2.1 1 dd)) := rfl
  have i1 : itN (oc v (v.2.1 1 dd)) = (oc v (v.2.1 1 dd)).len := itN_len (by omega)
  have hlen : (oc v (v.2.1 1 dd)).len = (l.length : Int) := by
    rw [Ob.len_toList (by omega)]
    rw [hpl] at har
    omega
  have i2 : itN (oc v r) = (l.length : Int) := by
    have : (oc v r).len = (l.length : Int) := by rw [er, e1, Ob.len_ofList]
    rw [itN_len (by omega), this]
  refine pc_bindRow hT p3 vr (by rw [i2, i1, hlen]) (by rw [i1]; omega) (fun w gw bw ew _ => hq w gw bw (by rw [ew, er]; rfl) (fun x hx => ?_))
  rw [ew, er, e2]
  exact lkD_w (P := fun y => Ob.wt (Sp.arOf E) y ∧ y.sz ≤ 120) _ (fun p hp => e4 p.2 (List.of_mem_zip hp).2) (var_w hx)
theorem fill_congr_z [DecidableEq Ob] {s s' : Ob → Ob} {o : Ob} (h : ∀ x, vr false o x → s x = s' x) : Sz.fill s o = Sz.fill s' o := by
  unfold Sz.fill
  rw [sb_congr false o h]
theorem pc_fillJ_z [DecidableEq Ob] {k : Int} {s : Ob → Ob} {K' : Ob → Sz.M α} {Q' : Int → iST → Prop} (hP : PdK_z B δ (f8Zz B) f8Jr u0 v R (Sp.bd (Sz.fill s (oc v k)) K')) (fit : Fit_z B R) (hK : ∀ a, Mono_z (K' a)) (hE : EnvZ v E) (nk : NdC v E k) (hB : BnOk v) (hs : ∀ x, vr false (oc v k) x → s x = Ob.lkD (bdL v) x) (hlw : ∀ x, Ob.isVar x = true → Ob.wt (Sp.arOf E) (Ob.lkD (bdL v) x) ∧ (Ob.lkD (bdL v) x).sz ≤ 120)
    (hq : ∀ t w, CG f8B f8W v w → (v.1 32 ≠ 0 → w.1 32 ≠ 0) → NdD w E t → PdK_z B (δ + 600) (f8Zz B) f8Jr u0 w R (K' (oc w t)) → (t = -1 → w.1 32 ≠ 0) → Q' t w) : pv_10_rebuilt k 1 Q' v := by
  rw [fill_congr_z hs] at hP
  exact pc_fill_z hP f8B_Z f8W_J fit hK (arOf6_z hE.1) nk hB rfl hlw (sb_wt false _ nk.2.1 (fun x hx => (hlw x hx.2).1)).1 hq
theorem dfn_nd_z [DecidableEq Ob] {dd : Int} (hE : EnvZ v E) (d0 : 0 ≤ dd) (d1 : dd < v.1 0) {f : Ob} (hd : E.dfn f = some (dfnC v dd)) : NdC v E (v.2.1 3 dd) := ⟨(hE.1.2.2 dd d0 d1).2.2.2.1, (hE.2.1 _ (dfn_mem hd).1).1, hE.2.2.1 _ (dfn_mem hd).1⟩
/-- the test of a definition came out -/
theorem st_choose_z [DecidableEq Ob] {m a : Int} {D : Sp.Dfn} (hM : FmJ_z u0 E B R Q ρ c x g row v0 T K) (hS : StJ_z B E c x g row ctx v0 v) (hs : v.2.1 51 (17 * c + 3) = 17) (h5 : v.2.1 51 (17 * c + 5) = m) (nm : NdC v E m) (hc : (oc v m).isCall = true) (h24 : v.1 24 = a) (na : NdC v E a) (hdf : E.dfn (Ob.lft (oc v m)) = some D) (hif : D.body.isCallOf Ob.ifS = true) (hP : PdK_z B δ (f8Zz B) f8Jr u0 v R (Sp.bd (if Ob.isConst (oc v a) then Sp.bd (Sz.fill (Ob.lkD (D.params.zip (Ob.toList (Ob.rgt (oc v m))))) (Ob.item D.body (if oc v a = Ob.nil then 3 else 2))) (fun x => ρ ctx x (decide (g = 1))) else Sz.ret (oc v m)) K)) (ht : t + T + 1 ≤ 24 * (v.1 31 + zz B v.1 - (u0.1 31 + zz B u0.1))) : pv_6_rewritten_20 Q t v := by
  have hP := hP.zero (δ' := 0) hS.2.2.1
  have hC := hM.1
  have T0 := hM.2.2.2.2.2.2
  have hT := hS.ct
  have hE := hC.env hP
  refine hd_17 hS.2.1.1 hM.2.2.2.2.1 hS.2.2.1 (hC.turn hP hS.2.2.1 (by omega)) hs ?_
  unfold pv_6_chooseBranch
  intro _ _ n1 en1 _
  rw [en1, h5]
  refine pc_left hT nm.1 (fun f vf ef => ?_)
  refine pc_functionOf_z hT hE.1 vf (by rw [ef]; obtain ⟨l, _, _, e3, _⟩ := nm.args hc; omega) (fun z => ?_) (fun dd d0 d1 d2 d3 => ?_)
  · rw [ef, hdf] at z; cases z
  refine ⟨fun z => by omega, fun _ => ?_⟩
  have eD : D = dfnC v dd := by rw [ef, hdf] at d3; exact Option.some.inj d3
  rw [eD] at hdf hif hP
  intro n6 en6 _
  rw [en6, h24]
  have n0 := oc_nil hT na.1
  refine pc_isConstant hT na.1 (fun r1 hr1 => ⟨fun z => ?_, fun z => ?_⟩)
  rotate_left
  · rw [if_neg (by rw [hr1.f (Decidable.not_not.mp z)]; decide)] at hP
    unfold pv_6_chooseBranch_37
    intro _ _ n4 en4 _
    rw [en4, h5]
    exact fr_fin_z (t := t + 1) hM hS.1 hS.2.1 nm.d hP.retd (by omega) (fun w h _ => h)
  rw [if_pos (hr1.t z), bd_assoc] at hP
  intro _ _ n8 en8 _ _ _ n9 en9 _
  rw [en8, en9, h5]
  refine pc_right hT nm.1 (fun rr vrr err => ?_)
  refine pc_bound_z hT hE nm hc d0 d1 hdf vrr err (fun w gw bw ew lw => ?_)
  intro _ _ n12 en12 _ n13 en13 _
  have w24 : w.1 24 = a := by rw [gw.2.2.1 24 (by decide)]; exact h24
  have w3 : w.2.1 3 = v.2.1 3 := gw.2.2.2 3 (by decide)
  have w32 : w.1 32 = 0 := by rw [gw.2.2.1 32 (by decide)]; exact hS.2.2.1
  have hSw := hS.gen gw f8b_Z f8m_J (by decide) (by decide) w32
  have hPw := hP.frame gw f8b_Z f8m_J (by decide)
  obtain ⟨nb, eb⟩ := (dfn_nd_z hE d0 d1 hdf).up hT gw
  have eb : oc w (v.2.1 3 dd) = (dfnC v dd).body := eb
  have w31 : w.1 31 + zz B w.1 = v.1 31 + zz B v.1 := zsE (gw.2.2.1 31 (by decide)) (gw.2.2.1 28 (by decide))
  rw [en12, en13, w24, w3]
  -- the one that is taken
  have go : ∀ i : Int, 1 ≤ i → i ≤ 3 → (if oc v a = Ob.nil then 3 else 2) = i.toNat → pv_6_chooseBranch_102 (fun u => ovp (t + 1) (pv_6_rewritten_20 Q (t + 1) u)) c (v.2.1 3 dd) i w := by
    intro i i1 i2 ei
    unfold pv_6_chooseBranch_102
    refine pc_it gw.1 nb (by rw [eb]; exact hif) ifq' (arOf_ifS E) i1 i2 (fun b nbb ebb => ?_)
    rw [eb, ← ei] at ebb
    rw [← ebb, ← ew] at hPw
    refine pc_fillJ_z hPw hC.2.2.1 (fun a => Mono_z.bd (hM.2.2.2.2.2.1 _ _ _) hM.2.2.2.1) (hE.mono hT (gw.mono f8b_Yz f8m_J)) nbb bw (fun _ _ => rfl) lw (fun o z gz zd nt hPz _ => ?_)
    have kz : RjK_z B (c + 1) w z := RjK_z.of gz f8B_Z f8W_J (by decide)
    have z31 : z.1 31 + zz B z.1 = v.1 31 + zz B v.1 := (zsE (by rw [gz.2.2.1 31 (by decide)]) (by rw [gz.2.2.1 28 (by decide)])).trans w31
    exact fr_instead_z (t := t + 1) hM (hSw.1.tr kz (by omega)) (hSw.2.1.keep (by rw [gz.2.2.1 23 (by decide)]; exact hSw.2.1.1) (fun j hj => kz.2.1 j (by omega))) hS.2.2.2.2.2 (hSw.2.2.2.2.1.up gw.1 gz) nt hPz (by rw [z31]; omega) (fun w h _ => h)
  exact ⟨fun z0 => go 3 (by decide) (by decide) (if_pos (n0.mp z0)), fun z0 => go 2 (by decide) (by decide) (if_neg (fun q => z0 (n0.mpr q)))⟩
/-- a call is unfolded -/
theorem st_unfold_z [DecidableEq Ob] {m : Int} (hM : FmJ_z u0 E B R Q ρ c x g row v0 T K) (hS : StJ_z B E c x g row ctx v0 v) (hs : v.2.1 51 (17 * c + 3) = 16) (h5 : v.2.1 51 (17 * c + 5) = m) (nm : NdC v E m) (hc : (oc v m).isCall = true) (hP : PdK_z B δ (f8Zz B) f8Jr u0 v R (Sp.bd (Sz.unf E (ρ ctx) (oc v m) (decide (g = 1))) K)) (ht : t + T + 1 ≤ 24 * (v.1 31 + zz B v.1 - (u0.1 31 + zz B u0.1))) : pv_6_rewritten_20 Q t v := by
  have hP := hP.zero (δ' := 0) hS.2.2.1
  have hC := hM.1
  have T0 := hM.2.2.2.2.2.2
  have hT := hS.ct
  have hE := hC.env hP
  refine hd_16 hS.2.1.1 hM.2.2.2.2.1 hS.2.2.1 (hC.turn hP hS.2.2.1 (by omega)) hs ?_
  unfold pv_6_unfold
  intro _ _ n1 en1 _
  rw [en1, h5]
  refine pc_left hT nm.1 (fun f vf ef => ?_)
  refine pc_functionOf_z hT hE.1 vf (by rw [ef]; obtain ⟨l, _, _, e3, _⟩ := nm.args hc; omega) (fun z => ?_) (fun dd d0 d1 d2 d3 => ?_)
  · refine ⟨fun q => absurd rfl q, fun _ => ?_⟩
    intro _ _ n19 en19 _
    rw [en19, h5]
    rw [ef] at z
    unfold Sz.unf at hP
    rw [z] at hP
    exact fr_fin_z (t := t + 1) hM hS.1 hS.2.1 nm.d hP.retd (by omega) (fun w h _ => h)
  rw [ef] at d3
  refine ⟨fun _ => ?_, fun z => by omega⟩
  have hU : Sz.unf E (ρ ctx) (oc v m) (decide (g = 1)) = if (dfnC v dd).meas.isNone then Sp.bd (Sz.fill (Ob.lkD ((dfnC v dd).params.zip (Ob.toList (Ob.rgt (oc v m))))) (dfnC v dd).body) (fun x => ρ ctx x (decide (g = 1)))
          else if Ob.isCallOf (dfnC v dd).body Ob.ifS then Sp.bd (Sz.fill (Ob.lkD ((dfnC v dd).params.zip (Ob.toList (Ob.rgt (oc v m))))) (Ob.item (dfnC v dd).body 1)) (fun q => Sp.bd (ρ ctx q true) (fun a => if Ob.isConst a then Sp.bd (Sz.fill (Ob.lkD ((dfnC v dd).params.zip (Ob.toList (Ob.rgt (oc v m))))) (Ob.item (dfnC v dd).body (if a = Ob.nil then 3 else 2))) (fun x => ρ ctx x (decide (g = 1))) else Sz.ret (oc v m))) else Sz.ret (oc v m) := by
    unfold Sz.unf
    rw [d3]
  rw [hU] at hP
  have hme : (dfnC v dd).meas.isNone = decide (v.2.1 4 dd = -1) := by
    show (if v.2.1 4 dd = -1 then none else some (oc v (v.2.1 4 dd))).isNone = _
    by_cases z : v.2.1 4 dd = -1
    · rw [if_pos z, decide_eq_true z]; rfl
    · rw [if_neg z, decide_eq_false z]; rfl
  have nb := dfn_nd_z hE d0 d1 d3
  have eb : oc v (v.2.1 3 dd) = (dfnC v dd).body := rfl
  intro _ _ n4 en4 _ _ _ n5 en5 _
  rw [en4, en5]
  -- what is bound
  have go : ∀ pl : Int, (∀ w, CG f8b f8m v w → BnOk w → bdL w = (dfnC v dd).params.zip (Ob.toList (Ob.rgt (oc v m))) → (∀ x, Ob.isVar x = true → Ob.wt (Sp.arOf E) (Ob.lkD (bdL w) x) ∧ (Ob.lkD (bdL w) x).sz ≤ 120) → StJ_z B E c x g row ctx v0 w → w.1 31 + zz B w.1 = v.1 31 + zz B v.1 → w.2.1 51 = v.2.1 51 → PdK_z B 0 (f8Zz B) f8Jr u0 w R (Sp.bd (if (dfnC v dd).meas.isNone then Sp.bd (Sz.fill (Ob.lkD ((dfnC v dd).params.zip (Ob.toList (Ob.rgt (oc v m))))) (dfnC v dd).body) (fun x => ρ ctx x (decide (g = 1)))
          else if Ob.isCallOf (dfnC v dd).body Ob.ifS then Sp.bd (Sz.fill (Ob.lkD ((dfnC v dd).params.zip (Ob.toList (Ob.rgt (oc v m))))) (Ob.item (dfnC v dd).body 1)) (fun q => Sp.bd (ρ ctx q true) (fun a => if Ob.isConst a then Sp.bd (Sz.fill (Ob.lkD ((dfnC v dd).params.zip (Ob.toList (Ob.rgt (oc v m))))) (Ob.item (dfnC v dd).body (if a = Ob.nil then 3 else 2))) (fun x => ρ ctx x (decide (g = 1))) else Sz.ret (oc v m))) else Sz.ret (oc v m)) K) → NdC w E (v.2.1 3 dd) → oc w (v.2.1 3 dd) = (dfnC v dd).body →
      br (pl = 0) (pv_7_item (v.2.1 3 dd) 1 (fun v10 u => pv_6_unfold_134 (fun u => ovp (t + 1) (pv_6_rewritten_20 Q (t + 1) u)) c pl v10 u) w) (pv_6_unfold_134 (fun u => ovp (t + 1) (pv_6_rewritten_20 Q (t + 1) u)) c pl (v.2.1 3 dd) w)) → pv_6_unfold_86 (fun u => ovp (t + 1) (pv_6_rewritten_20 Q (t + 1) u)) c dd (v.2.1 3 dd) pl v := by
    intro pl h
    unfold pv_6_unfold_86
    intro _ _ n6 en6 _ _ _ n7 en7 _
    rw [en6, en7, h5]
    refine pc_right hT nm.1 (fun rr vrr err => ?_)
    refine pc_bound_z hT hE nm hc d0 d1 d3 vrr err (fun w gw bw ew lw => ?_)
    have w32 : w.1 32 = 0 := by rw [gw.2.2.1 32 (by decide)]; exact hS.2.2.1
    have hSw := hS.gen gw f8b_Z f8m_J (by decide) (by decide) w32
    have hPw := hP.frame gw f8b_Z f8m_J (by decide)
    obtain ⟨nbw, ebw⟩ := nb.up hT gw
    exact h w gw bw ew lw hSw (zsE (gw.2.2.1 31 (by decide)) (gw.2.2.1 28 (by decide))) (gw.2.2.2 51 (by decide)) hPw nbw (ebw.trans eb)
  refine ⟨fun z4 => ?_, fun z4 => ?_⟩
  · have hmn : (dfnC v dd).meas.isNone = false := by rw [hme]; exact decide_eq_false z4
    unfold pv_6_unfold_59
    refine ⟨fun z => absurd rfl z, fun _ => ?_⟩
    refine pc_isCallK 3 hT nb.1 (by decide) (by decide) (o := Ob.ifS) rfl (fun r3 hr3 => ⟨fun z => go 0 (fun w gw bw ew lw hSw w31 w51 hPw nbw ebw => ?_), fun z => ?_⟩)
    rotate_left
    · rw [if_neg (by rw [hmn]; decide), if_neg (by rw [← eb, hr3.f (Decidable.not_not.mp z)]; decide)] at hP
      intro _ _ n17 en17 _
      rw [en17, h5]
      exact fr_fin_z (t := t + 1) hM hS.1 hS.2.1 nm.d hP.retd (by omega) (fun w h _ => h)
    have hif : (dfnC v dd).body.isCallOf Ob.ifS = true := by rw [← eb]; exact hr3.t z
    rw [if_neg (by rw [hmn]; decide), if_pos hif] at hPw
    refine ⟨fun _ => ?_, fun z => absurd rfl z⟩
    refine pc_it gw.1 nbw (by rw [ebw]; exact hif) ifq' (arOf_ifS E) (by decide) (by decide) (fun b nbb ebb => ?_)
    have ebb : oc w b = Ob.item (dfnC v dd).body 1 := by rw [ebb, ebw]; rfl
    unfold pv_6_unfold_134
    simp only [bd_assoc] at hPw
    rw [← ebb] at hPw
    have mn2 : ∀ a : Ob, Mono_z (Sp.bd (if Ob.isConst a then Sp.bd (Sz.fill (Ob.lkD ((dfnC v dd).params.zip (Ob.toList (Ob.rgt (oc v m))))) (Ob.item (dfnC v dd).body (if a = Ob.nil then 3 else 2))) (fun x => ρ ctx x (decide (g = 1))) else Sz.ret (oc v m)) K) := fun a => Mono_z.bd (Mono_z.ite (Mono_z.bd Mono_z.fill (fun _ => hM.2.2.2.2.2.1 _ _ _)) Mono_z.ret) hM.2.2.2.1
    refine pc_fillJ_z hPw hC.2.2.1 (fun a => Mono_z.bd (hM.2.2.2.2.2.1 _ _ _) mn2) (hE.mono hT (gw.mono f8b_Yz f8m_J)) nbb bw (fun _ _ => by rw [ew]) lw (fun o y gy yd nt hPy _ => ?_)
    refine ⟨fun _ => ?_, fun z => absurd rfl z⟩
    intro n12 en12 _
    rw [en12]
    refine ⟨fun z _ => rj_dead_z hC hPy z, fun z => ?_⟩
    have y32 := Decidable.not_not.mp z
    have nO := nt.2.2 y32
    have hSy := hSw.gen gy f8B_Z f8W_J (by decide) (by decide) y32
    intro _ _ y1 e1 _ _ n13 en13 _
    obtain ⟨k1, m1, c1, r1, s1, q1⟩ := fr_set_z (B := B) gy.1 e1 (by decide)
    have hS1 := hSy.set e1 (by decide)
    have hP1 := hPy.setA e1
    obtain ⟨nO1, eO1⟩ := nO.up gy.1 k1.1
    rw [en13, hS1.2.1.2.2.2.1]
    have y31 : y1.1 31 + zz B y1.1 = v.1 31 + zz B v.1 := (zsE (by rw [m1, gy.2.2.1 31 (by decide)]) (by rw [m1, gy.2.2.1 28 (by decide)])).trans w31
    refine fr_ask_z (t := t + 1) (k := 0) (g' := 1) hM hS1 nO1 hS1.2.2.2.2.1 (Or.inr rfl) mn2 (by rw [eO1]; exact hP1) (by decide) (by rw [y31]; omega) (fun w h _ => h) (fun w' a t' hSw' kw' na w24 hPw' ht' => ?_)
    have gvw : CG (f8Zz B) f8Jr v w' := (((gw.mono f8b_Z f8m_J).tr (gy.mono f8B_Z f8W_J)).tr k1.1).tr kw'.1
    obtain ⟨nm', em'⟩ := nm.up hT gvw
    have fr2 : ∀ j, j < 17 * (c + 1) → w'.2.1 51 j = y1.2.1 51 j := fun j hj => kw'.2.1 j hj
    have y51 : y.2.1 51 = v.2.1 51 := (gy.2.2.2 51 (by decide)).trans w51
    refine st_choose_z (m := m) (a := a) (D := dfnC v dd) hM hSw' (by rw [fr2 _ (by omega)]; exact q1) (by rw [fr2 _ (by omega), s1 _ (by omega), y51]; exact h5) nm' (by rw [em']; exact hc) w24 na (by rw [em']; exact d3) hif (by rw [em']; exact hPw') (by omega)
  · have z4 := Decidable.not_not.mp z4
    have hmn : (dfnC v dd).meas.isNone = true := by rw [hme]; exact decide_eq_true z4
    unfold pv_6_unfold_59
    refine ⟨fun _ => go 1 (fun w gw bw ew lw hSw w31 w51 hPw nbw ebw => ?_), fun z => absurd (by decide) z⟩
    rw [if_pos hmn, bd_assoc, ← ebw] at hPw
    refine ⟨(fun z => by cases z), fun _ => ?_⟩
    unfold pv_6_unfold_134
    refine pc_fillJ_z hPw hC.2.2.1 (fun a => Mono_z.bd (hM.2.2.2.2.2.1 _ _ _) hM.2.2.2.1) (hE.mono hT (gw.mono f8b_Yz f8m_J)) nbw bw (fun _ _ => by rw [ew]) lw (fun o y gy yd nt hPy _ => ?_)
    refine ⟨(fun z => by cases z), fun _ => ?_⟩
    have kz : RjK_z B (c + 1) w y := RjK_z.of gy f8B_Z f8W_J (by decide)
    have z31 : y.1 31 + zz B y.1 = v.1 31 + zz B v.1 := (zsE (by rw [gy.2.2.1 31 (by decide)]) (by rw [gy.2.2.1 28 (by decide)])).trans w31
    exact fr_instead_z (t := t + 1) hM (hSw.1.tr kz (by omega)) (hSw.2.1.keep (by rw [gy.2.2.1 23 (by decide)]; exact hSw.2.1.1) (fun j hj => kz.2.1 j (by omega))) hS.2.2.2.2.2 (hSw.2.2.2.2.1.up gw.1 gy) nt hPy (by rw [z31]; omega) (fun w h _ => h)
theorem rule_at_z [DecidableEq Ob] {w : iST} {E : Sp.Env} {n : Nat} {k : Sp.Thm} {Rl : Sp.Rul} (hE : EnvZ w E) (hk : E.thms[n]? = some k) (hr : k.rule = some Rl) : (n : Int) < w.1 25 ∧ w.2.1 7 (n : Int) ≠ -1 ∧ Th1c w E (n : Int) ∧ Rl.lhs = oc w (w.2.1 7 (n : Int)) ∧ Rl.rhs = oc w (w.2.1 8 (n : Int)) ∧ Rl.hyps = hypC w (n : Int) ∧ Rl.perm = decide (w.2.1 11 (n : Int) ≠ 0) := by
  have hl : n < E.thms.length := (List.getElem?_eq_some_iff.mp hk).1
  have h1 := hE.2.2.2.1
  have hn : (n : Int) < w.1 25 := by omega
  obtain ⟨a, ⟨k', e', h'⟩, b⟩ := hE.2.2.2.2.2 n hn
  rw [hk] at e'
  have e' := Option.some.inj e'
  rw [← e'] at h'
  have h3 := h'.2.2
  rw [hr] at h3
  unfold rulC at h3
  by_cases c : w.2.1 7 (n : Int) = -1
  · rw [if_pos c] at h3; cases h3
  · rw [if_neg c] at h3
    have h3 := Option.some.inj h3
    rw [h3]
    exact ⟨hn, c, a, rfl, rfl, rfl, rfl⟩
theorem pc_canLook_z [DecidableEq Ob] {n : Nat} {g : Int} {Q : Int → iST → Prop} {u : iST} {E : Sp.Env} {k : Sp.Thm} (hE : EnvZ u E) (hk : E.thms[n]? = some k) (h0 : Sp.can E k (decide (g = 1)) = none → Q 0 u) (h1 : ∀ Rl, Sp.can E k (decide (g = 1)) = some Rl → Q 1 u) : pv_0_canLook (n : Int) g Q u := by
  have hl : n < E.thms.length := (List.getElem?_eq_some_iff.mp hk).1
  have hn : (n : Int) < u.1 25 := by have := hE.2.2.2.1; omega
  obtain ⟨a, ⟨k', e', h'⟩, b⟩ := hE.2.2.2.2.2 n hn
  rw [hk] at e'
  have e' := Option.some.inj e'
  rw [← e'] at h'
  have h3 := h'.2.2
  have hnm := h'.1
  unfold rulC at h3
  unfold pv_0_canLook
  intro _ _ v1 ev1 _
  rw [ev1]
  refine ⟨fun c _ => h0 ?_, fun c => ?_⟩
  · rw [if_pos c] at h3
    unfold Sp.can; rw [h3]
  rw [if_neg c] at h3
  have hcan : Sp.can E k (decide (g = 1)) = if (decide (u.2.1 12 (n : Int) ≠ 0) && !Ob.has E.muted k.name && (decide (g = 1) || !decide (u.2.1 10 (n : Int) ≠ 0))) then k.rule else none := by
    unfold Sp.can; rw [h3]
  rw [hnm] at hcan
  intro _ _ v2 ev2 _
  rw [ev2]
  refine ⟨fun c2 _ => h0 ?_, fun c2 => ?_⟩
  · rw [hcan, decide_eq_false (not_not_intro c2)]; rfl
  intro _ _ v3 ev3 _
  rw [ev3]
  refine ⟨fun c3 _ => h0 ?_, fun c3 => ?_⟩
  · rw [hcan, b.mp c3]; simp
  have hm : Ob.has E.muted (oc u (u.2.1 5 (n : Int))) = false := by
    cases q : Ob.has E.muted (oc u (u.2.1 5 (n : Int))) with
    | false => rfl
    | true => exact absurd (b.mpr q) c3
  rw [decide_eq_true c2, hm] at hcan
  refine ⟨fun c4 _ => h1 _ (by rw [hcan, decide_eq_true c4, h3]; rfl), fun c4 => ?_⟩
  intro _ _ v4 ev4 _
  rw [ev4]
  refine ⟨fun c5 _ => h0 ?_, fun c5 _ => h1 _ (by rw [hcan, decide_eq_false c5, h3, Bool.not_false, Bool.or_true]; rfl)⟩
  rw [hcan, decide_eq_true c5, decide_eq_false c4]; rfl
/-- rules below n are still to be looked at -/
def SkJ_z [DecidableEq Ob] (u0 : iST) (E : Sp.Env) (B : Sz.Bx) (R : EStateM.Result Unit Sz.Wk α) (Q : Int → iST → Prop) (ρ : List Ob → Ob → Bool → Sz.M Ob) (c : Int) (v0 : iST) (T : Int) (K : Ob → Sz.M α) (x g row : Int) (ctx : List Ob) (m : Int) (o : Ob) (n : Nat) : Prop := ∀ (t : Int) (v : iST), StJ_z B E c x g row ctx v0 v → v.2.1 51 (17 * c + 3) = 12 → v.2.1 51 (17 * c + 8) = (n : Int) - 1 → v.2.1 51 (17 * c + 5) = m → NdC v E m → oc v m = o → PdK_z B 0 (f8Zz B) f8Jr u0 v R (Sp.bd (Sz.rwRules E (ρ ctx) o (decide (g = 1)) (E.thms.take n).reverse) K) → t + T + 2 ≤ 24 * (v.1 31 + zz B v.1 - (u0.1 31 + zz B u0.1)) → pv_6_rewritten_20 Q t v
def hypM_z [DecidableEq Ob] (E : Sp.Env) (ρ : List Ob → Ob → Bool → Sz.M Ob) (ctx : List Ob) (g : Int) (o : Ob) (n : Nat) (l : List (Ob × Ob)) (rhs : Ob) (hs : List Ob) : Sz.M Ob := Sp.bd (Sz.rwHyps (fun h => ρ ctx h true) (Ob.lkD l) hs) (fun b => if b then Sp.bd (Sz.fill (Ob.lkD l) rhs) (fun x => ρ ctx x (decide (g = 1))) else Sz.rwRules E (ρ ctx) o (decide (g = 1)) (E.thms.take n).reverse)
theorem hypM_mono_z [DecidableEq Ob] (hρ : ∀ c o t, Mono_z (ρ c o t)) {o rhs : Ob} {n : Nat} {l : List (Ob × Ob)} {hs : List Ob} : Mono_z (hypM_z E ρ ctx g o n l rhs hs) := Mono_z.bd (rwHyps_mono_z (fun o => hρ _ _ _) _) (fun b => Mono_z.ite (Mono_z.bd Mono_z.fill (fun _ => hρ _ _ _)) (rwRules_mono_z (fun o t => hρ _ _ _) _))
theorem hypM_nil_z [DecidableEq Ob] {o rhs : Ob} {n : Nat} {l : List (Ob × Ob)} : hypM_z E ρ ctx g o n l rhs [] = Sp.bd (Sz.fill (Ob.lkD l) rhs) (fun x => ρ ctx x (decide (g = 1))) := by
  unfold hypM_z
  rfl
theorem hypM_cons_z [DecidableEq Ob] {o rhs h : Ob} {n : Nat} {l : List (Ob × Ob)} {hs : List Ob} : hypM_z E ρ ctx g o n l rhs (h :: hs) = Sp.bd (Sz.fill (Ob.lkD l) h) (fun x => Sp.bd (ρ ctx x true) (fun v => if v = Ob.t then hypM_z E ρ ctx g o n l rhs hs else Sz.rwRules E (ρ ctx) o (decide (g = 1)) (E.thms.take n).reverse)) := by
  unfold hypM_z
  show Sp.bd (Sp.bd (Sz.fill (Ob.lkD l) h) (fun x => Sp.bd (ρ ctx x true) (fun v => if v = Ob.t then Sz.rwHyps (fun h => ρ ctx h true) (Ob.lkD l) hs else Sz.ret false))) _ = _
  simp only [bd_assoc, bd_ite_z]
  rfl
def ApJ_z [DecidableEq Ob] (u0 : iST) (E : Sp.Env) (B : Sz.Bx) (R : EStateM.Result Unit Sz.Wk α) (Q : Int → iST → Prop) (ρ : List Ob → Ob → Bool → Sz.M Ob) (c : Int) (v0 : iST) (T : Int) (K : Ob → Sz.M α) (x g row : Int) (ctx : List Ob) (m : Int) (o : Ob) (n : Nat) (l : List (Ob × Ob)) (rhs : Ob) (hs : List Ob) (i : Nat) : Prop := ∀ (t : Int) (v : iST), StJ_z B E c x g row ctx v0 v → v.2.1 51 (17 * c + 3) = 14 → v.2.1 51 (17 * c + 8) = (n : Int) → v.2.1 51 (17 * c + 9) = (i : Int) → v.2.1 51 (17 * c + 5) = m → NdC v E m → oc v m = o → PdK_z B 0 (f8Zz B) f8Jr u0 v R (Sp.bd (hypM_z E ρ ctx g o n l rhs (hs.drop i)) K) → t + T + 1 ≤ 24 * (v.1 31 + zz B v.1 - (u0.1 31 + zz B u0.1)) → pv_6_rewritten_20 Q t v
/-- a hypothesis came out -/
theorem st_judge_z [DecidableEq Ob] {a m : Int} {o rhs : Ob} {n i : Nat} {l : List (Ob × Ob)} {hs : List Ob} (hM : FmJ_z u0 E B R Q ρ c x g row v0 T K) (hsk : SkJ_z u0 E B R Q ρ c v0 T K x g row ctx m o n) (hap : ApJ_z u0 E B R Q ρ c v0 T K x g row ctx m o n l rhs hs (i + 1)) (hS : StJ_z B E c x g row ctx v0 v) (hs0 : v.2.1 51 (17 * c + 3) = 15) (h8 : v.2.1 51 (17 * c + 8) = (n : Int)) (h9 : v.2.1 51 (17 * c + 9) = (i : Int)) (h5 : v.2.1 51 (17 * c + 5) = m) (nm : NdC v E m) (em : oc v m = o) (h24 : v.1 24 = a) (na : NdC v E a)
    (hP : PdK_z B δ (f8Zz B) f8Jr u0 v R (Sp.bd (if oc v a = Ob.t then hypM_z E ρ ctx g o n l rhs (hs.drop (i + 1)) else Sz.rwRules E (ρ ctx) o (decide (g = 1)) (E.thms.take n).reverse) K)) (ht : t + T + 3 ≤ 24 * (v.1 31 + zz B v.1 - (u0.1 31 + zz B u0.1))) : pv_6_rewritten_20 Q t v := by
  have hP := hP.zero (δ' := 0) hS.2.2.1
  have hC := hM.1
  have T0 := hM.2.2.2.2.2.2
  have hT := hS.ct
  refine hd_15 hS.2.1.1 hM.2.2.2.2.1 hS.2.2.1 (hC.turn hP hS.2.2.1 (by omega)) hs0 ?_
  have k1t := katC hT 1 (o := Ob.t) (by decide) (by decide) rfl na.1.1 na.1.2
  unfold pv_6_judge
  intro n1 en1 _
  rw [en1, h24]
  refine ⟨fun z => ?_, fun z => ?_⟩
  · rw [if_neg (fun q => z (k1t.mpr q))] at hP
    intro _ _ n2 en2 _ _ _ _ y1 e1 _ _ y2 e2 _
    rw [en2, h8] at e1
    obtain ⟨k1, m1, c1, r1, s1, q1⟩ := fr_set_z (B := B) hT e1 (by decide)
    obtain ⟨k2, m2, c2, r2, s2, q2⟩ := fr_set_z (B := B) k1.1.1 e2 (by decide)
    obtain ⟨nm2, em2⟩ := nm.up hT (k1.1.tr k2.1)
    exact hsk (t + 1) y2 ((hS.set e1 (by decide)).set e2 (by decide)) q2 (by rw [s2 _ (by omega)]; exact q1) (by rw [s2 _ (by omega), s1 _ (by omega)]; exact h5) nm2 (by rw [em2]; exact em) ((hP.setA e1).setA e2) (by rw [m2, m1]; omega)
  · rw [if_pos (k1t.mp (Decidable.not_not.mp z))] at hP
    intro _ _ n2 en2 _ _ _ _ y1 e1 _ _ y2 e2 _
    rw [en2, h9] at e1
    obtain ⟨k1, m1, c1, r1, s1, q1⟩ := fr_set_z (B := B) hT e1 (by decide)
    obtain ⟨k2, m2, c2, r2, s2, q2⟩ := fr_set_z (B := B) k1.1.1 e2 (by decide)
    obtain ⟨nm2, em2⟩ := nm.up hT (k1.1.tr k2.1)
    exact hap (t + 1) y2 ((hS.set e1 (by decide)).set e2 (by decide)) q2 (by rw [s2 _ (by omega), s1 _ (by omega)]; exact h8) (by rw [s2 _ (by omega), q1]; omega) (by rw [s2 _ (by omega), s1 _ (by omega)]; exact h5) nm2 (by rw [em2]; exact em) ((hP.setA e1).setA e2) (by rw [m2, m1]; omega)
theorem st_apply_z [DecidableEq Ob] {m : Int} {o : Ob} {n : Nat} {l : List (Ob × Ob)} {k : Sp.Thm} {Rl : Sp.Rul} (hM : FmJ_z u0 E B R Q ρ c x g row v0 T K) (hsk : SkJ_z u0 E B R Q ρ c v0 T K x g row ctx m o n) (hk : E.thms[n]? = some k) (hr : k.rule = some Rl) (ho : Ob.wt (Sp.arOf E) o) (hmt : Ob.mt Rl.lhs o = some l) : ∀ j i : Nat, i + j = Rl.hyps.length → ApJ_z u0 E B R Q ρ c v0 T K x g row ctx m o n l Rl.rhs Rl.hyps i := by
  intro j
  induction j with
  | zero =>
    intro i hi t v hS hs h8 h9 h5 nm em hP ht
    have hC := hM.1
    have T0 := hM.2.2.2.2.2.2
    have hT := hS.ct
    have hE := hC.env hP
    obtain ⟨r1, r2, r3, r4, r5, r6, r7⟩ := rule_at_z hE hk hr
    obtain ⟨n7, c7, n8', c9, v8, hh⟩ := r3.2.2 r2
    refine hd_14 hS.2.1.1 hM.2.2.2.2.1 hS.2.2.1 (hC.turn hP hS.2.2.1 (by omega)) hs ?_
    unfold pv_6_apply
    intro _ _ n1 en1 _
    rw [en1, h8]
    intro _ _ n2 en2 _ _ _ n3 en3 _
    rw [en2, en3, h5]
    rw [r4] at hmt
    refine pc_matches hT n7 nm (fun w gw hno => ?_) (fun w gw bw hv hag hbd => ?_)
    · exact absurd (by rw [em]; exact mt_sound n7.2.1 ho hmt) (hno (Ob.lkD l))
    intro _ _ n5 en5 _
    have w51 : w.2.1 51 = v.2.1 51 := gw.2.2.2 51 (by decide)
    rw [en5, w51, h9]
    intro _ _ n6 en6 _
    have w9 : w.2.1 9 = v.2.1 9 := gw.2.2.2 9 (by decide)
    rw [en6, w9]
    have hlen : Rl.hyps.length = (v.2.1 9 (n : Int)).toNat := by rw [r6]; exact hypC_len
    refine ⟨fun z => by omega, fun _ => ?_⟩
    intro _ _ n15 en15 _
    have w8 : w.2.1 8 = v.2.1 8 := gw.2.2.2 8 (by decide)
    rw [en15, w8]
    have w32 : w.1 32 = 0 := by rw [gw.2.2.1 32 (by decide)]; exact hS.2.2.1
    have hSw := hS.gen gw f8b_Z f8m_J (by decide) (by decide) w32
    have hPw := hP.frame gw f8b_Z f8m_J (by decide)
    rw [List.drop_eq_nil_of_le (by omega), hypM_nil_z, bd_assoc, r5] at hPw
    obtain ⟨nrw, erw⟩ := n8'.up hT gw
    rw [← erw] at hPw
    rw [em] at hag
    refine pc_fillJ_z hPw hC.2.2.1 (fun a => Mono_z.bd (hM.2.2.2.2.2.1 _ _ _) hM.2.2.2.1) (hE.mono hT (gw.mono f8b_Yz f8m_J)) nrw bw (fun y hy => mt_bind n7.2.1 ho hmt hag hbd y (v8 y (by rw [← erw]; exact hy))) (bdL_w hv) (fun q y gy yd nt hPy _ => ?_)
    have kz : RjK_z B (c + 1) w y := RjK_z.of gy f8B_Z f8W_J (by decide)
    have z31 : y.1 31 + zz B y.1 = v.1 31 + zz B v.1 := zsE (by rw [gy.2.2.1 31 (by decide), gw.2.2.1 31 (by decide)]) (by rw [gy.2.2.1 28 (by decide), gw.2.2.1 28 (by decide)])
    exact fr_instead_z (t := t + 1) hM (hSw.1.tr kz (by omega)) (hSw.2.1.keep (by rw [gy.2.2.1 23 (by decide)]; exact hSw.2.1.1) (fun j hj => kz.2.1 j (by omega))) hS.2.2.2.2.2 (hSw.2.2.2.2.1.up gw.1 gy) nt hPy (by rw [z31]; omega) (fun w h _ => h)
  | succ j ih =>
    intro i hi t v hS hs h8 h9 h5 nm em hP ht
    have hap := ih (i + 1) (by omega)
    have hC := hM.1
    have T0 := hM.2.2.2.2.2.2
    have hT := hS.ct
    have hE := hC.env hP
    obtain ⟨r1, r2, r3, r4, r5, r6, r7⟩ := rule_at_z hE hk hr
    obtain ⟨n7, c7, n8', c9, v8, hh⟩ := r3.2.2 r2
    refine hd_14 hS.2.1.1 hM.2.2.2.2.1 hS.2.2.1 (hC.turn hP hS.2.2.1 (by omega)) hs ?_
    unfold pv_6_apply
    intro _ _ n1 en1 _
    rw [en1, h8]
    intro _ _ n2 en2 _ _ _ n3 en3 _
    rw [en2, en3, h5]
    have hmt' := hmt
    rw [r4] at hmt'
    refine pc_matches hT n7 nm (fun w gw hno => ?_) (fun w gw bw hv hag hbd => ?_)
    · exact absurd (by rw [em]; exact mt_sound n7.2.1 ho hmt') (hno (Ob.lkD l))
    intro _ _ n5 en5 _
    have w51 : w.2.1 51 = v.2.1 51 := gw.2.2.2 51 (by decide)
    rw [en5, w51, h9]
    intro _ _ n6 en6 _
    have w9 : w.2.1 9 = v.2.1 9 := gw.2.2.2 9 (by decide)
    rw [en6, w9]
    have hlen : Rl.hyps.length = (v.2.1 9 (n : Int)).toNat := by rw [r6]; exact hypC_len
    refine ⟨fun _ => ?_, fun z => by omega⟩
    intro _ _ y1 e1 _ _ _ _ n9 en9 _ _ _ n10 en10 _
    have w32 : w.1 32 = 0 := by rw [gw.2.2.1 32 (by decide)]; exact hS.2.2.1
    have hSw := hS.gen gw f8b_Z f8m_J (by decide) (by decide) w32
    have hPw := hP.frame gw f8b_Z f8m_J (by decide)
    obtain ⟨k1, m1, c1, q1r, s1, q1⟩ := fr_set_z (B := B) gw.1 e1 (by decide)
    have hS1 := hSw.set e1 (by decide)
    have hP1 := hPw.setA e1
    have g1 : CG (f8Zz B) f8Jr v y1 := (gw.mono f8b_Z f8m_J).tr k1.1
    have y50 : y1.2.1 50 = v.2.1 50 := by rw [q1r 50 (by decide)]; exact gw.2.2.2 50 (by decide)
    have y9 : y1.2.1 51 (17 * c + 9) = (i : Int) := by rw [s1 _ (by omega), w51]; exact h9
    rw [en10, en9, y9, y50]
    obtain ⟨nh, vh⟩ := hh (i : Int) (by omega) (by omega)
    obtain ⟨nh1, eh1⟩ := nh.up hT g1
    have hdrop : Rl.hyps.drop i = oc v (v.2.1 50 (60 * (n : Int) + (i : Int))) :: Rl.hyps.drop (i + 1) := by
      have hlt : i < Rl.hyps.length := by omega
      rw [List.drop_eq_getElem_cons hlt]
      congr 1
      have := hypC_get (w := v) (r := (n : Int)) (i := i) (by omega)
      rw [← r6, List.getElem?_eq_getElem hlt] at this
      exact Option.some.inj this
    rw [hdrop, hypM_cons_z, bd_assoc, ← eh1] at hP1
    simp only [bd_assoc] at hP1
    have mn : ∀ a : Ob, Mono_z (Sp.bd (if a = Ob.t then hypM_z E ρ ctx g o n l Rl.rhs (Rl.hyps.drop (i + 1)) else Sz.rwRules E (ρ ctx) o (decide (g = 1)) (E.thms.take n).reverse) K) := fun a => Mono_z.bd (Mono_z.ite (hypM_mono_z hM.2.2.2.2.2.1) (rwRules_mono_z (fun o t => hM.2.2.2.2.2.1 _ _ _) _)) hM.2.2.2.1
    rw [em] at hag
    have b1 := bw.mono gw.1 k1.1 (by rw [m1]) (q1r 35 (by decide)) (q1r 36 (by decide))
    have lw := bdL_w hv
    rw [← b1.2] at lw hag hbd
    refine pc_fillJ_z hP1 hC.2.2.1 (fun a => Mono_z.bd (hM.2.2.2.2.2.1 _ _ _) mn) (hE.mono hT (g1.mono f8Z_Y (fun _ q => q))) nh1 b1.1 (fun y hy => mt_bind (E := E) n7.2.1 ho hmt' hag hbd y (vh y (by rw [← eh1]; exact hy))) lw (fun q y gy yd nt hPy _ => ?_)
    intro n12 en12 _
    rw [en12]
    refine ⟨fun z _ => rj_dead_z hC hPy z, fun z => ?_⟩
    have y32 := Decidable.not_not.mp z
    have nO := nt.2.2 y32
    have hSy := hS1.gen gy f8B_Z f8W_J (by decide) (by decide) y32
    intro _ _ n13 en13 _
    rw [en13, hSy.2.1.2.2.2.1]
    have y31 : y.1 31 + zz B y.1 = v.1 31 + zz B v.1 := zsE (by rw [gy.2.2.1 31 (by decide), m1, gw.2.2.1 31 (by decide)]) (by rw [gy.2.2.1 28 (by decide), m1, gw.2.2.1 28 (by decide)])
    refine fr_ask_z (t := t + 1) (k := 0) (g' := 1) hM hSy nO hSy.2.2.2.2.1 (Or.inr rfl) mn hPy (by decide) (by rw [y31]; omega) (fun w h _ => h) (fun w' a t' hSw' kw' na w24 hPw' ht' => ?_)
    have gvw : CG (f8Zz B) f8Jr v w' := (g1.tr (gy.mono f8B_Z f8W_J)).tr kw'.1
    obtain ⟨nm', em'⟩ := nm.up hT gvw
    have fr2 : ∀ j, j < 17 * (c + 1) → j ≠ 17 * c + 3 → w'.2.1 51 j = v.2.1 51 j := fun j hj h3 => by rw [kw'.2.1 j hj, gy.2.2.2 51 (by decide), s1 j h3, w51]
    exact st_judge_z (i := i) hM hsk hap hSw' (by rw [kw'.2.1 _ (by omega), gy.2.2.2 51 (by decide)]; exact q1) (by rw [fr2 _ (by omega) (by omega)]; exact h8) (by rw [fr2 _ (by omega) (by omega)]; exact h9) (by rw [fr2 _ (by omega) (by omega)]; exact h5) nm' (by rw [em']; exact em) w24 na hPw' (by omega)
end
