-- deps: 732
/-! the class: IF, NOT rewritten -/
section
variable {α : Type} {u0 v0 v : iST} {E : Sp.Env} {B x g row c t T : Int} {R : EStateM.Result Unit Sp.Wk α} {Q : Int → iST → Prop} {K : Ob → Sp.M α} {d : Nat} {ctx : List Ob}
theorem CxC.add [DecidableEq Ob] {u w : iST} {k a row : Int} (cx : CxC u E row ctx) (na : NdC u E a) (vk : VN w k) (ek : oc w k = .pr (oc u a) (oc u row)) : CxC w E k (ctx ++ [oc u a]) := by
  refine ⟨vk, ?_, fun b hb => ?_⟩
  · rw [ek, cx.2.1, List.reverse_append]; rfl
  · rcases List.mem_append.mp hb with q | q
    · exact cx.2.2 b q
    · rcases List.mem_cons.mp q with q | q
      · rw [q]; exact na.2
      · cases q
theorem st_then [DecidableEq Ob] {a b rr : Int} (hM : FmJ u0 E B R Q d c x g row v0 T K) (hS : StJ E c x g row ctx v0 v) (hs : v.2.1 51 (17 * c + 3) = 3) (h5 : v.2.1 51 (17 * c + 5) = a) (h6 : v.2.1 51 (17 * c + 6) = rr) (h24 : v.1 24 = b) (na : NdC v E a) (nb : NdC v E b) (nr : NdC v E rr) (hP : PdK B f8Jn f8Jr u0 v R (Sp.bd (Sp.mkNot (oc v a)) (fun nA => Sp.bd (Sp.pay 1) (fun _ => Sp.bd (Sp.rw E d (ctx ++ [nA]) (oc v rr) (decide (g = 1))) (fun e => Sp.bd (Sp.rwJoin (decide (g = 1)) (oc v a) (oc v b) e) (fun y => K (Sp.fin (decide (g = 1)) y))))))) (ht : t + T + 2 ≤ 24 * (v.1 31 - u0.1 31)) : pv_6_rewritten_20 Q t v := by
  have hC := hM.1
  have T0 := hM.2.2.2.2.2.2
  have hT := hS.ct
  refine hd_3 hS.2.1.1 hM.2.2.2.2.1 hS.2.2.1 (hC.turn hP hS.2.2.1 (by omega)) hs ?_
  unfold pv_6_goOnWithThen
  intro n1 en1 _ _ _ y1 e1 _ _ y2 e2 _ _ n2 en2 _
  rw [en1, h24] at e1
  obtain ⟨k1, m1, c1, r1, s1, q1⟩ := fr_set hT e1 (by decide)
  obtain ⟨k2, m2, c2, r2, s2, q2⟩ := fr_set k1.1.1 e2 (by decide)
  have hS2 := (hS.set e1 (by decide)).set e2 (by decide)
  have hP2 := (hP.same k1.1 (fun k _ _ => by rw [m1])).same k2.1 (fun k _ _ => by rw [m2])
  have ec : ∀ k, oc y2 k = oc v k := oc_same (by rw [c2, c1])
  have up : ∀ {k}, NdC v E k → NdC y2 E k := fun {k} h => ((h.up hT k1.1).1.up k1.1.1 k2.1).1
  rw [en2, s2 _ (by omega), s1 _ (by omega), h5]
  have mn : ∀ nA : Ob, Mono (Sp.bd (Sp.pay 1) (fun _ => Sp.bd (Sp.rw E d (ctx ++ [nA]) (oc v rr) (decide (g = 1))) (fun e => Sp.bd (Sp.rwJoin (decide (g = 1)) (oc v a) (oc v b) e) (fun y => K (Sp.fin (decide (g = 1)) y))))) := fun nA => Mono.bd Mono.pay (fun _ => Mono.bd (rw_mono _ _ _ _) (fun e => Mono.bd rwJoin_mono (nf_mono hM.2.2.2.1 _)))
  refine pc_negated (by rw [ec]; exact hP2) f8B_J f8W_J hC.2.2.1 mn (up na) (fun o w gw wd nt hPw _ => ?_)
  intro n4 en4 _
  rw [en4]
  refine ⟨fun z _ => rj_dead hC hPw z, fun z => ?_⟩
  have w32 := Decidable.not_not.mp z
  have nO := nt.2.2 w32
  have kw : RjK (c + 1) y2 w := RjK.of gw f8B_J f8W_J (by decide)
  have hSw := hS2.gen gw f8B_J f8W_J (by decide) (by decide) w32
  have fr : ∀ j, j < 17 * (c + 1) → j ≠ 17 * c + 3 → j ≠ 17 * c + 7 → w.2.1 51 j = v.2.1 51 j := fun j h1 h2 h3 => by rw [kw.2.1 j h1, s2 j h2, s1 j h3]
  intro _ _ n5 en5 _ _ _ n6 en6 _ _ _ n7 en7 _
  rw [en5, fr _ (by omega) (by omega) (by omega), h6, en6, hSw.2.1.2.2.1, en7, hSw.2.1.2.2.2.1]
  have hm := hPw.payroom hC.2.2.1 (Mono.bd (rw_mono _ _ _ _) (fun e => Mono.bd rwJoin_mono (nf_mono hM.2.2.2.1 _))) w32
  refine pc_pair gw.1 nO.1 hSw.2.2.2.2.1.1 (by omega) (fun kk z gz vk ek h29 => ?_)
  have hPz := hPw.pays gz h29
  have z32 : z.1 32 = 0 := by rw [gz.2.2.1 32 (by decide)]; exact w32
  have hSz := hSw.gen gz f8M_J f8R_J (by decide) (by decide) z32
  have gyz : CG f8Jn f8Jr y2 z := (gw.mono f8B_J f8W_J).tr (gz.mono f8M_J f8R_J)
  have upz : ∀ {k}, NdC v E k → NdC z E k ∧ oc z k = oc v k := fun {k} h => ⟨((up h).up k2.1.1 gyz).1, by rw [((up h).up k2.1.1 gyz).2, ec]⟩
  have z31 : z.1 31 = v.1 31 := by rw [gz.2.2.1 31 (by decide), gw.2.2.1 31 (by decide), m2, m1]
  refine fr_ask (t := t + 1) (k := 1) hM hSz (upz nr).1 (hSw.2.2.2.2.1.add nO vk ek) hSz.2.2.2.2.2 (fun e => Mono.bd rwJoin_mono (nf_mono hM.2.2.2.1 _)) (by rw [(upz nr).2]; exact hPz) (by decide) (by rw [z31]; omega) (fun w h _ => h) (fun w' e t' hSw' kw' ne w24 hPw' ht' => ?_)
  have fr2 : ∀ j, j < 17 * (c + 1) → w'.2.1 51 j = y2.2.1 51 j := fun j hj => by rw [kw'.2.1 j hj, gz.2.2.2 51 (by decide), kw.2.1 j hj]
  have upw : ∀ {k}, NdC v E k → NdC w' E k ∧ oc w' k = oc v k := fun {k} h => ⟨((upz h).1.up gz.1 kw'.1).1, by rw [((upz h).1.up gz.1 kw'.1).2, (upz h).2]⟩
  exact st_else hM hSw' (by rw [fr2 _ (by omega)]; exact q2) (by rw [fr2 _ (by omega), s2 _ (by omega), s1 _ (by omega)]; exact h5) (by rw [fr2 _ (by omega), s2 _ (by omega)]; exact q1) w24 (upw na).1 (upw nb).1 ne (by rw [(upw na).2, (upw nb).2]; exact hPw') (by omega)
/-- the test of an IF came out -/
theorem st_test [DecidableEq Ob] {a : Int} (hM : FmJ u0 E B R Q d c x g row v0 T K) (hS : StJ E c x g row ctx v0 v) (hs : v.2.1 51 (17 * c + 3) = 2) (h24 : v.1 24 = a) (na : NdC v E a) (hx : (oc v x).isCallOf Ob.ifS = true) (hP : PdK B f8Jn f8Jr u0 v R (Sp.bd (Sp.rwIf (Sp.rw E d) ctx (oc v x) (oc v a) (decide (g = 1))) (fun y => K (Sp.fin (decide (g = 1)) y)))) (ht : t + T + 2 ≤ 24 * (v.1 31 - u0.1 31)) : pv_6_rewritten_20 Q t v := by
  have hC := hM.1
  have T0 := hM.2.2.2.2.2.2
  have hT := hS.ct
  have nx := hS.2.2.2.1
  have ifq : Ob.ifS ≠ Ob.quote := Ob.sym_ne (by decide)
  refine hd_2 hS.2.1.1 hM.2.2.2.2.1 hS.2.2.1 (hC.turn hP hS.2.2.1 (by omega)) hs ?_
  unfold pv_6_goOnWithTest
  intro _ _ n1 en1 _
  rw [en1, hS.2.1.2.1]
  refine pc_it hT nx hx ifq (arOf_ifS E) (by decide) (by decide) (fun yes nyes eyes => ?_)
  intro _ _ n3 en3 _
  rw [en3, hS.2.1.2.1]
  refine pc_it hT nx hx ifq (arOf_ifS E) (by decide) (by decide) (fun no nno eno => ?_)
  have eyes : oc v yes = (oc v x).item 2 := eyes
  have eno : oc v no = (oc v x).item 3 := eno
  intro n5 en5 _
  rw [en5, h24]
  unfold Sp.rwIf at hP
  refine pc_isConstant hT na.1 (fun r hr => ⟨fun z => ?_, fun z => ?_⟩)
  rotate_left
  · rw [if_pos (hr.t z)] at hP
    intro n18 en18 _
    have n0 := oc_nil hT na.1
    rw [en18, h24]
    unfold pv_6_goOnWithTest_52
    refine ⟨fun z0 => ?_, fun z0 => ?_⟩
    · rw [if_pos (n0.mp z0), ← eno] at hP
      exact fr_instead (t := t + 1) hM hS.1 hS.2.1 hS.2.2.2.2.2 hS.2.2.2.2.1 nno.d hP (by omega) (fun w h _ => h)
    · rw [if_neg (fun q => z0 (n0.mpr q)), ← eyes] at hP
      exact fr_instead (t := t + 1) hM hS.1 hS.2.1 hS.2.2.2.2.2 hS.2.2.2.2.1 nyes.d hP (by omega) (fun w h _ => h)
  rw [if_neg (by rw [hr.f z]; decide)] at hP
  -- both ways
  have go : ∀ (ex m one two : Int), NdC v E m → NdC v E one → NdC v E two → PdK B f8Jn f8Jr u0 v R (Sp.bd (Sp.pay 1) (fun _ => Sp.bd (Sp.rw E d (ctx ++ [oc v m]) (oc v one) (decide (g = 1))) (fun b => Sp.bd (Sp.mkNot (oc v m)) (fun nA => Sp.bd (Sp.pay 1) (fun _ => Sp.bd (Sp.rw E d (ctx ++ [nA]) (oc v two) (decide (g = 1))) (fun e => Sp.bd (Sp.rwJoin (decide (g = 1)) (oc v m) b e) (fun y => K (Sp.fin (decide (g = 1)) y)))))))) → (ex = 0 → one = yes ∧ two = no) → (ex ≠ 0 → one = no ∧ two = yes) → pv_6_goOnWithTest_97 (fun u => ovp (t + 1) (pv_6_rewritten_20 Q (t + 1) u)) c yes no ex c 5 m v := by
    intro ex m one two nm none ntwo hP he0 he1
    have mn3 : ∀ b nA : Ob, Mono (Sp.bd (Sp.pay 1) (fun _ => Sp.bd (Sp.rw E d (ctx ++ [nA]) (oc v two) (decide (g = 1))) (fun e => Sp.bd (Sp.rwJoin (decide (g = 1)) (oc v m) b e) (fun y => K (Sp.fin (decide (g = 1)) y))))) := fun b nA => Mono.bd Mono.pay (fun _ => Mono.bd (rw_mono _ _ _ _) (fun e => Mono.bd rwJoin_mono (nf_mono hM.2.2.2.1 _)))
    -- the terms chosen
    have g111 : ∀ y1 : iST, y1 = iA v 51 (17 * c + 5) m → pv_6_goOnWithTest_111 (fun u => ovp (t + 1) (pv_6_rewritten_20 Q (t + 1) u)) c yes no ex c 6 two y1 := by
      intro y1 e1
      obtain ⟨k1, m1, c1, r1, s1, q1⟩ := fr_set hT e1 (by decide)
      have g127 : ∀ y3 : iST, ∀ y2 : iST, y2 = iA y1 51 (17 * c + 6) two → y3 = iA y2 51 (17 * c + 3) 3 → pv_6_goOnWithTest_127 (fun u => ovp (t + 1) (pv_6_rewritten_20 Q (t + 1) u)) c one y3 := by
        intro y3 y2 e2 e3
        obtain ⟨k2, m2, c2, r2, s2, q2⟩ := fr_set k1.1.1 e2 (by decide)
        obtain ⟨k3, m3, c3, r3, s3, q3⟩ := fr_set k2.1.1 e3 (by decide)
        have hS3 := ((hS.set e1 (by decide)).set e2 (by decide)).set e3 (by decide)
        have hP3 := ((hP.same k1.1 (fun k _ _ => by rw [m1])).same k2.1 (fun k _ _ => by rw [m2])).same k3.1 (fun k _ _ => by rw [m3])
        have ec : ∀ k, oc y3 k = oc v k := oc_same (by rw [c3, c2, c1])
        have g3 := (k1.1.tr k2.1).tr k3.1
        have up : ∀ {k}, NdC v E k → NdC y3 E k := fun {k} h => (h.up hT g3).1
        unfold pv_6_goOnWithTest_127
        intro _ _ n10 en10 _ _ _ n11 en11 _ _ _ n12 en12 _
        rw [en10, hS3.2.1.2.2.1, en11, s3 _ (by omega), s2 _ (by omega), q1, en12, hS3.2.1.2.2.2.1]
        have hm := hP3.payroom hC.2.2.1 (Mono.bd (rw_mono _ _ _ _) (fun b => Mono.bd Mono.not (fun nA => mn3 b nA))) hS3.2.2.1
        refine pc_pair k3.1.1 (up nm).1 hS3.2.2.2.2.1.1 (by omega) (fun kk z gz vk ek h29 => ?_)
        have hPz := hP3.pays gz h29
        have z32 : z.1 32 = 0 := by rw [gz.2.2.1 32 (by decide)]; exact hS3.2.2.1
        have hSz := hS3.gen gz f8M_J f8R_J (by decide) (by decide) z32
        have gvz : CG f8Jn f8Jr v z := g3.tr (gz.mono f8M_J f8R_J)
        have upz : ∀ {k}, NdC v E k → NdC z E k ∧ oc z k = oc v k := fun {k} h => h.up hT gvz
        have z31 : z.1 31 = v.1 31 := by rw [gz.2.2.1 31 (by decide), m3, m2, m1]
        have cx' := hS3.2.2.2.2.1.add (up nm) vk ek
        rw [ec] at cx'
        refine fr_ask (t := t + 1) (k := 1) hM hSz (upz none).1 cx' hSz.2.2.2.2.2 (fun b => Mono.bd Mono.not (fun nA => mn3 b nA)) (by rw [(upz none).2]; exact hPz) (by decide) (by rw [z31]; omega) (fun w h _ => h) (fun w' b t' hSw' kw' nb w24 hPw' ht' => ?_)
        have fr2 : ∀ j, j < 17 * (c + 1) → w'.2.1 51 j = y3.2.1 51 j := fun j hj => by rw [kw'.2.1 j hj, gz.2.2.2 51 (by decide)]
        have upw : ∀ {k}, NdC v E k → NdC w' E k ∧ oc w' k = oc v k := fun {k} h => h.up hT (gvz.tr kw'.1)
        exact st_then hM hSw' (by rw [fr2 _ (by omega)]; exact q3) (by rw [fr2 _ (by omega), s3 _ (by omega), s2 _ (by omega)]; exact q1) (by rw [fr2 _ (by omega), s3 _ (by omega)]; exact q2) w24 (upw nm).1 nb (upw ntwo).1 (by rw [(upw nm).2, (upw ntwo).2]; exact hPw') (by omega)
      unfold pv_6_goOnWithTest_111
      intro _ _ y2 e2 _ _ y3 e3
      refine ⟨fun z => ?_, fun z => ?_⟩
      · rw [← (he0 z).1]; exact g127 y3 y2 e2 e3
      · rw [← (he1 z).1]; exact g127 y3 y2 e2 e3
    unfold pv_6_goOnWithTest_97
    intro _ _ y1 e1
    refine ⟨fun z => ?_, fun z => ?_⟩
    · have := g111 y1 e1
      rw [(he0 z).2] at this
      exact this
    · have := g111 y1 e1
      rw [(he1 z).2] at this
      exact this
  intro n7 en7 _
  rw [en7, h24]
  refine pc_isCallK 16 hT na.1 (by decide) (by decide) (o := Ob.not) rfl (fun r2 hr2 => ⟨fun z2 => ?_, fun z2 => ?_⟩)
  · have hf := hr2.f z2
    rw [hf] at hP
    intro n9 en9 _
    rw [en9, h24]
    refine go r2 a yes no na nyes nno ?_ (fun _ => ⟨rfl, rfl⟩) (fun z => absurd z2 z)
    rw [eyes, eno]
    simp only [bd_assoc] at hP
    exact hP
  · have hf := hr2.t z2
    rw [hf] at hP
    intro n16 en16 _
    rw [en16, h24]
    refine pc_it hT na hf (Ob.sym_ne (by decide)) (arOf_not E) (by decide) (by decide) (fun m nm em => ?_)
    have em : oc v m = (oc v a).item 1 := em
    refine go r2 m no yes nm nno nyes ?_ (fun z => absurd z z2) (fun _ => ⟨rfl, rfl⟩)
    rw [eyes, eno, em]
    simp only [bd_assoc] at hP
    exact hP
end
