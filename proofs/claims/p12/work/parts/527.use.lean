-- deps: 526
/-! the reference: what is used -/
theorem prs_snoc [DecidableEq Ob] {u v : iST} (n0 : 0 ≤ u.1 74) (h74 : v.1 74 = u.1 74 + 1) (h : ∀ i, 0 ≤ i → i < u.1 74 → ob v (v.2.1 72 i) = ob u (u.2.1 72 i) ∧ ob v (v.2.1 73 i) = ob u (u.2.1 73 i)) : prs v = prs u ++ [(ob v (v.2.1 72 (u.1 74)), ob v (v.2.1 73 (u.1 74)))] := by
  unfold prs
  rw [h74, show (u.1 74 + 1).toNat = (u.1 74).toNat + 1 by omega, List.range_succ, List.map_append]
  refine congr (congrArg _ (List.map_congr_left (fun i hi => ?_))) ?_
  · have := List.mem_range.mp hi
    obtain ⟨a, b⟩ := h (i : Int) (by omega) (by omega)
    rw [a, b]
  · show [(ob v (v.2.1 72 ((u.1 74).toNat : Int)), ob v (v.2.1 73 ((u.1 74).toNat : Int)))] = _
    rw [show (((u.1 74).toNat : Nat) : Int) = u.1 74 by omega]
theorem MK.fillU [DecidableEq Ob] {xs : List Ob} {f : Ob → Ob} {o : Ob} {s : Sp.Wk} {v : iST} {k : Int} (h : MK (Sp.fill f o) s v k) : MK (Sp.fillU xs f o) s v k := by
  unfold Sp.fill Sp.fillU Sp.big at h
  unfold Sp.fillU Sp.big
  by_cases cz : 120 < Ob.sz (Ob.sbM f false o)
  · rcases h.cases with ⟨a, s2, h1, h2⟩ | ⟨a, s2, h1, h2⟩
    · rw [if_pos cz] at h1; cases h1
    · exact Or.inr ⟨_, if_pos cz, rfl, a⟩
  · rcases h.cases with ⟨a, s2, h1, h2⟩ | ⟨a, s2, h1, h2⟩
    · rw [if_neg cz] at h1
      injection h1 with e1 e2
      exact Or.inl ⟨_, (if_neg cz).trans (congrArg (fun z => EStateM.Result.ok z _) e1), rfl, a⟩
    · rw [if_neg cz] at h1; cases h1
theorem p_useRows [DecidableEq Ob] {Q : iST → Prop} {u0 u : iST} {H : Sp.Hs} {m : List Ob} {R : EStateM.Result Unit Sp.Wk (List Ob)} {K : List Ob → Sp.M (List Ob)} (hE : EnvS u (H.env m)) (hF : FmOk u (H.env m)) (h71 : 0 ≤ u.1 71) (n139 : 0 ≤ u.1 139) (hus : ∀ i, 0 ≤ i → i < u.1 139 → UsE u (H.env []) i)
    (hL : LyD u0 u (H.env m) R (fun l => Sp.bd (Sp.usesGo ((List.range (u.1 139).toNat).map (fun i : Nat => UsP u (H.env []) (i : Int))) l []) K)) (hq : ∀ v, GZ f7I u v → LyD u0 v (H.env m) R K → Q v) : pw_useRows Q u := by
  obtain ⟨g0, u71, hDf, hst⟩ := hL
  have hT := g0.1
  have hU := g0.2.1
  obtain ⟨hD, h57, hW, hTk⟩ := hE
  generalize hUL : (List.range (u.1 139).toNat).map (fun i : Nat => UsP u (H.env []) (i : Int)) = UL at hst
  have hULl : UL.length = (u.1 139).toNat := by rw [← hUL]; simp
  have hULg : ∀ (i : Nat) (h : i < UL.length), UL[i] = UsP u (H.env []) (i : Int) := by
    intro i h
    have : UL[i]? = some (UsP u (H.env []) (i : Int)) := by
      rw [← hUL, List.getElem?_map, List.getElem?_range (by omega)]; rfl
    rw [List.getElem?_eq_getElem h] at this
    exact Option.some.inj this
  unfold pw_useRows
  refine pw_useRows_2_i (fun x1 v => ∃ i : Nat, x1 = (i : Int) ∧ i ≤ UL.length ∧ GZ f7I u v ∧ v.1 71 = u.1 71 ∧ DfOk v (H.env m) ∧ ((v.1 61 = 0 ∧ ∃ s, StL v s ∧ ∃ xs, R = Sp.bd (Sp.usesGo (UL.drop i) (dfl v) xs) K s) ∨ (v.1 61 ≠ 0 ∧ ∃ s, StL v s ∧ R = .error () s))) ?_ ⟨0, rfl, Nat.zero_le _, GZ.rf hT hU, rfl, hDf, hst.imp (fun ⟨a, s, b, c⟩ => ⟨a, s, b, [], c⟩) id⟩
  intro x1 v hI
  obtain ⟨i, e1, hi, gv, v71, dv, hv⟩ := hI
  rw [e1]
  have hTv := gv.1
  have hUv := gv.2.1
  have qm : ∀ k, (12 ≤ k ∧ k ≤ 59) ∨ (132 ≤ k ∧ k ≤ 139) → f7I k = false := fun k hk => by unfold f7I f7M fI; simp only [Bool.or_eq_false_iff, decide_eq_false_iff_not]; omega
  have q : ∀ k, (12 ≤ k ∧ k ≤ 59) ∨ (132 ≤ k ∧ k ≤ 139) → v.1 k = u.1 k ∧ v.2.1 k = u.2.1 k := fun k hk => gv.2.2.2.2 k (qm k hk)
  have fin : ∀ K', ((v.1 61 = 0 ∧ ∃ s, StL v s ∧ R = K' (dfl v) s) ∨ (v.1 61 ≠ 0 ∧ ∃ s, StL v s ∧ R = .error () s)) → LyD u0 v (H.env m) R K' := fun K' h => ⟨g0.tr gv, v71.trans u71, dv, h⟩
  unfold pw_useRows_2b
  intro y ey _
  rw [(q 139 (by omega)).1] at ey
  rw [ey]
  refine ⟨fun hc => hq v gv (fin K (hv.imp (fun ⟨a, s, b, xs, c⟩ => ⟨a, s, b, by rw [c, List.drop_eq_nil_of_le (by omega)]; rfl⟩) id)), fun hc => ?_⟩
  intro y2 ey2 _
  rw [ey2]
  refine ⟨fun hz => hq v gv (fin K (Or.inr (hv.resolve_left (fun z => hz z.1)))), fun hz => ?_⟩
  have h61 := Decidable.not_not.mp hz
  obtain ⟨_, s, hs, xs, hR⟩ := hv.resolve_right (fun z => z.1 h61)
  have hil : i < UL.length := by omega
  obtain ⟨⟨a1, a2⟩, ⟨b1, b2⟩, hsome⟩ := hus (i : Int) (by omega) (by omega)
  obtain ⟨ps, hps⟩ := Option.isSome_iff_exists.mp hsome
  have eUL : UL[i] = (ob u (u.2.1 44 (u.2.1 137 (i : Int))), ps) := by
    rw [hULg i hil]; unfold UsP; rw [hps]; rfl
  rw [List.drop_eq_getElem_cons hil, eUL] at hR
  have hR : R = Sp.bd (Sp.bd (Sp.fillU xs (Ob.lkD ps) (ob u (u.2.1 44 (u.2.1 137 (i : Int))))) fun x => Sp.bd (Sp.mkNot x) fun y => Sp.usesGo (UL.drop (i + 1)) (Sp.putL (dfl v) y) (x :: xs)) K s := hR
  have hlen : (ob u (u.2.1 138 (i : Int))).len ≠ -1 := by
    intro z
    unfold Sp.pairsOf at hps
    rw [if_pos z] at hps; cases hps
  have hgo : Sp.pairsGo (H.env []) (Ob.toList (ob u (u.2.1 138 (i : Int)))) [] = some ps := by
    unfold Sp.pairsOf at hps
    rw [if_neg hlen] at hps; exact hps
  have eL := Ob.ofList_toList _ hlen
  generalize Ob.toList (ob u (u.2.1 138 (i : Int))) = L at hgo eL
  intro w ew
  have gw : GZ f7I v w := by rw [ew]; exact GZ_eq (GZ.rf hTv hUv) (fun k hk => ⟨if_neg (by omega), rfl⟩) rfl (Fx_I (by decide))
  have wn : ∀ k, k ≠ 74 → w.1 k = v.1 k := fun k hk => by rw [ew]; exact if_neg hk
  have w74 : w.1 74 = 0 := by rw [ew]; rfl
  have w2 : w.2 = v.2 := by rw [ew]; rfl
  clear ew
  intro _ _ y3 ey3 _
  rw [w2, (q 138 (by omega)).2] at ey3
  rw [ey3]
  have gvw := gv.tr gw
  have e138 : ob w (u.2.1 138 (i : Int)) = Ob.ofList L := by rw [gvw.ob hT b1 b2]; exact eL.symm
  have hlw := gvw.le
  refine pw_useRows_29_i (fun x1 x2 z => x1 = (i : Int) ∧ 0 ≤ x2 ∧ x2 < z.1 8 ∧ GZ f7I v z ∧ z.1 71 = u.1 71 ∧ z.1 61 = 0 ∧ z.1 60 = v.1 60 ∧ z.1 122 = v.1 122 ∧ z.2.1 121 = v.2.1 121 ∧ 0 ≤ z.1 74 ∧ PrW z (H.env m) ∧ ∃ j : Nat, j ≤ L.length ∧ ob z x2 = Ob.ofList (L.drop j) ∧ Sp.pairsGo (H.env []) (L.drop j) (prs z) = some ps) ?_ ⟨rfl, b1, by omega, gw, by rw [wn 71 (by decide)]; exact v71, by rw [wn 61 (by decide)]; exact h61, wn 60 (by decide), wn 122 (by decide), by rw [w2], by omega, ⟨fun j j0 j1 => by omega, fun q hq' => by unfold prs at hq'; rw [w74] at hq'; cases hq'⟩, 0, Nat.zero_le _, e138, by unfold prs; rw [w74]; exact hgo⟩
  intro x1 x2 z hI
  obtain ⟨f1, x0, x1', gz, z71, z61, z60, z122, z121, z74, pz, j, hj, ej, hgj⟩ := hI
  rw [f1]
  have hTz := gz.1
  have hUz := gz.2.1
  have guz := gv.tr gz
  have qz : ∀ k, (12 ≤ k ∧ k ≤ 59) ∨ (132 ≤ k ∧ k ≤ 139) → z.1 k = u.1 k ∧ z.2.1 k = u.2.1 k := fun k hk => guz.2.2.2.2 k (qm k hk)
  have hle := guz.le
  unfold pw_useRows_29b
  rcases list_step hTz hUz x0 x1' ej with ⟨zz, hnil⟩ | ⟨zz, p, rest, hcons, c0, c1, ec, d0, d1, ed⟩
  · refine ⟨fun _ => ?_, fun z' => absurd zz z'⟩
    rw [hnil] at hgj
    have hgj : some (prs z) = some ps := hgj
    have hprs := Option.some.inj hgj
    intro _ _ y4 ey4 _ _ _ y5 ey5 _
    rw [(qz 137 (by omega)).2] at ey4
    rw [ey4, (qz 44 (by omega)).2] at ey5
    obtain ⟨nf, ef⟩ := (hF _ a1 a2).mono hT guz
    rw [ey5]
    refine p_fillG hTz hUz pz (by rw [z71]; exact h71) nf s (fun k1 t1 g1 n1 mk1 _ => ?_)
    rw [hprs, ef] at mk1
    refine p_notG g1.1.1 g1.1.2.1 (by rw [g1.2.1, z71]; exact h71) n1 s (fun k2 t2 g2 n2 ek2 _ dead2 fk2 => ?_)
    have g12 := g1.tr g2
    have dz : DfOk z (H.env m) ∧ dfl z = dfl v := by
      refine ⟨⟨by rw [z122]; exact dv.1, fun i' i0 i1 => ?_⟩, ?_⟩
      · rw [z122] at i1
        rw [z121]; exact ((dv.2 i' i0 i1).mono hTv gz).1
      · unfold dfl
        rw [z122, z121]
        refine ls_congr (fun i' hi' => ?_)
        have := dv.1
        exact ((dv.2 _ (by omega) (by omega)).mono hTv gz).2
    obtain ⟨d2, l2⟩ := dz.1.mono hTz g12.1 (by decide) (by decide)
    refine p_put g2.1.1 g2.1.2.1 d2 n2 (fun t3 g3 d3 l3 _ => ?_)
    have gzt : GZ f7I z t3 := (g12.1.mono f7M_I).tr (g3.mono f7D_I)
    refine ⟨i + 1, by omega, hil, guz.tr gzt, ?_, d3, ?_⟩
    · rw [(g3.2.2.2.2 71 (by decide)).1, g12.2.1]; exact z71
    · have St : ∀ s' : Sp.Wk, s'.1 = s.1 → StL t3 s' := fun s' e => by
        unfold StL at hs ⊢
        rw [(gzt.2.2.2.2 60 (by decide)).1, (gzt.2.2.2.2 59 (by decide)).1, z60, (gz.2.2.2.2 59 (by decide)).1, e]
        exact hs
      have e61 : t3.1 61 = t2.1 61 := (g3.2.2.2.2 61 (by decide)).1
      rw [e61, l3, l2, dz.2, ek2]
      rw [bd_assoc'] at hR
      rcases (MK.fillU (xs := xs) (mk1 z61)).cases with ⟨y161, s2, h1, h2⟩ | ⟨y161, s2, h1, h2⟩
      · rw [bind_ok h1, bd_assoc'] at hR
        have mk2 := MK_not (s := s2) y161 ek2 fk2
        rcases mk2.cases with ⟨y261, s3, h3, h4⟩ | ⟨y261, s3, h3, h4⟩
        · rw [bind_ok h3, ek2] at hR
          exact Or.inl ⟨y261, s3, St s3 (h4.trans h2), _, hR⟩
        · exact Or.inr ⟨y261, s3, St s3 (h4.trans h2), by rw [hR]; exact bind_err h3⟩
      · exact Or.inr ⟨dead2 y161, s2, St s2 h2, by rw [hR]; exact bind_err h1⟩
  · refine ⟨fun z' => absurd z' zz, fun _ => ?_⟩
    have hj1 : j < L.length := by
      rcases Nat.lt_or_ge j L.length with q' | q'
      · exact q'
      · rw [List.drop_eq_nil_of_le q'] at hcons; cases hcons
    have hdj := List.drop_eq_getElem_cons hj1
    rw [hcons] at hdj
    injection hdj with _ hrest
    rw [hcons, pairsGo_cons] at hgj
    have hcd : Ob.len p = 2 ∧ Ob.isVar (Ob.lft p) = true ∧ Ob.lk (prs z) (Ob.lft p) = none := by
      by_cases cd : Ob.len p = 2 ∧ Ob.isVar (Ob.lft p) = true ∧ Ob.lk (prs z) (Ob.lft p) = none
      · exact cd
      · rw [if_neg cd] at hgj; cases hgj
    rw [if_pos hcd] at hgj
    obtain ⟨l0, l1, _, _, el, _, _⟩ := ob_lft hTz c0 c1 (by rw [ec]; exact (lft_item hcd.1).1)
    rw [ec] at el
    intro y4 ey4 _ _ _ y5 ey5 _ _ _ y6 ey6 _ _ _ t1 et1 y7 ey7 _ _ _ y8 ey8 _
    rw [ey5] at ey6
    rw [ey4, ey6] at et1
    have hy7 : y7 = z.1 74 := by rw [ey7, et1]; rfl
    have hy8 : y8 = z.2.1 0 x2 := by rw [ey8, et1]; rfl
    have g1 : GZ f7I z t1 := by rw [et1]; exact GZ_eq (GZ.rf hTz hUz) (fun k hk => ⟨rfl, if_neg (by omega)⟩) rfl (Fx_A (by decide))
    have t1n : t1.1 = z.1 := by rw [et1]; rfl
    have t172 : ∀ k, t1.2.1 72 k = if k = z.1 74 then z.2.1 0 (z.2.1 0 x2) else z.2.1 72 k := fun k => by rw [et1]; rfl
    have t1r : ∀ k, k ≠ 72 → t1.2.1 k = z.2.1 k := fun k hk => by rw [et1]; exact if_neg hk
    have eo1 : ∀ k, ob t1 k = ob z k := ob_same (t1r 0 (by decide)) (t1r 1 (by decide)) (t1r 9 (by decide)) (t1r 10 (by decide)) (by rw [et1]; rfl)
    clear et1 ey7 ey8
    rw [hy8]
    refine p_nthL g1.1 c0 (by rw [t1n]; exact c1) (by decide) (by rw [eo1, ec, hcd.1]; decide) (fun k k0 k1 ek => ?_)
    rw [eo1, eo1, ec] at ek
    have ek : ob z k = Ob.item p 1 := ek
    have D1' : DOk t1 (H.env m) := hD.mono hT (guz.tr g1) (DSm.of (guz.tr g1).2.2.2.2 (by decide) (by decide) (by decide) (by decide) (by decide) (by decide) (by decide))
    refine p_termE (E := H.env m) g1.1 g1.2.1 D1' (by rw [((guz.tr g1).2.2.2.2 57 (by decide)).1]; exact h57) k0 k1 (by rw [t1n, z71]; exact h71) (fun k2 t2 g2 t261 hk2 => ?_)
    rw [eo1, ek] at hk2
    have hk2 : (Ob.rdT (Sp.arOf (H.env [])) (Ob.item p 1) = none ∧ k2 = -1) ∨ (Nd t2 (H.env m) k2 ∧ (ob t2 k2).sz ≤ 120 ∧ Ob.rdT (Sp.arOf (H.env [])) (Ob.item p 1) = some (ob t2 k2)) := hk2
    rcases hk2 with ⟨hn, _⟩ | ⟨nk2, _, er⟩
    · rw [hn] at hgj; cases hgj
    rw [er] at hgj
    have hgj : Sp.pairsGo (H.env []) rest (prs z ++ [(Ob.lft p, ob t2 k2)]) = some ps := hgj
    intro _ _ t3 et3 y9 ey9 _ _ t4 et4 _ _ y10 ey10 _
    have g2' : GZ f7I t1 t2 := g2.1.mono f7M_I
    have t2q : ∀ k, f7M k = false → t2.1 k = t1.1 k ∧ t2.2.1 k = t1.2.1 k := fun k hk => g2.1.2.2.2.2 k hk
    have hy9 : y9 = z.1 74 := by rw [ey9, et3]; show t2.1 74 = _; rw [(t2q 74 (by decide)).1, t1n]
    rw [hy7] at et3
    rw [hy9] at et4
    have g3 : GZ f7I t2 t4 := by
      rw [et4, et3]
      exact GZ_eq (GZ.rf g2'.1 g2'.2.1) (fun k hk => ⟨if_neg (by omega), if_neg (by omega)⟩) rfl ((Fx_A (by decide)).tr (Fx_I (by decide)))
    have t4n : ∀ k, k ≠ 74 → t4.1 k = t2.1 k := fun k hk => by rw [et4, et3]; exact if_neg hk
    have t474 : t4.1 74 = z.1 74 + 1 := by rw [et4]; rfl
    have t473 : ∀ k, t4.2.1 73 k = if k = z.1 74 then k2 else t2.2.1 73 k := fun k => by rw [et4, et3]; rfl
    have t4r : ∀ k, k ≠ 73 → t4.2.1 k = t2.2.1 k := fun k hk => by rw [et4, et3]; exact if_neg hk
    have hy10 : y10 = z.2.1 1 x2 := by
      rw [ey10, t4r 1 (by decide), (g2.1.2.2.1.2.1 x2 x0 (by rw [t1n]; exact x1')).2.1, t1r 1 (by decide)]
    have eo4 : ∀ j, ob t4 j = ob t2 j := ob_same (t4r 0 (by decide)) (t4r 1 (by decide)) (t4r 9 (by decide)) (t4r 10 (by decide)) (by rw [et4, et3]; rfl)
    clear et3 et4 ey9 ey10
    rw [hy10]
    have gz4 := (g1.tr g2').tr g3
    have hle4 := gz4.le
    have row72 : ∀ k, t4.2.1 72 k = if k = z.1 74 then z.2.1 0 (z.2.1 0 x2) else z.2.1 72 k := fun k => by rw [t4r 72 (by decide), (t2q 72 (by decide)).2, t172]
    have row73 : ∀ k, t4.2.1 73 k = if k = z.1 74 then k2 else z.2.1 73 k := fun k => by rw [t473, (t2q 73 (by decide)).2, t1r 73 (by decide)]
    have old : ∀ i', 0 ≤ i' → i' < z.1 74 → ob t4 (t4.2.1 72 i') = ob z (z.2.1 72 i') ∧ ob t4 (t4.2.1 73 i') = ob z (z.2.1 73 i') := fun i' i0 i1 => by
      obtain ⟨p1, p2, p3, p4, _⟩ := pz.1 i' i0 i1
      rw [row72, row73, if_neg (by omega), if_neg (by omega), gz4.ob hTz p1 p2, gz4.ob hTz p3 p4]
      exact ⟨rfl, rfl⟩
    have eprs : prs t4 = prs z ++ [(Ob.lft p, ob t2 k2)] := by
      rw [prs_snoc z74 t474 old, row72, if_pos rfl, row73, if_pos rfl, gz4.ob hTz l0 (by omega), ← el, eo4]
    obtain ⟨nk4, ek4⟩ := nk2.mono g2'.1 g3
    refine ⟨rfl, d0, by omega, gz.tr gz4, ?_, ?_, ?_, ?_, ?_, by omega, ⟨fun i' i0 i1 => ?_, fun qq hqq => ?_⟩, j + 1, hj1, ?_, ?_⟩
    · rw [t4n 71 (by decide), g2.2.1, t1n]; exact z71
    · rw [t4n 61 (by decide), t261, t1n]; exact z61
    · rw [t4n 60 (by decide), (t2q 60 (by decide)).1, t1n]; exact z60
    · rw [t4n 122 (by decide), (t2q 122 (by decide)).1, t1n]; exact z122
    · rw [t4r 121 (by decide), (t2q 121 (by decide)).2, t1r 121 (by decide)]; exact z121
    · rw [row72, row73]
      by_cases ci : i' = z.1 74
      · rw [if_pos ci, if_pos ci]
        exact ⟨l0, by omega, nk4.1, nk4.2.1, nk4.2.2.1⟩
      · rw [if_neg ci, if_neg ci]
        obtain ⟨p1, p2, p3, p4, p5⟩ := pz.1 i' i0 (by omega)
        exact ⟨p1, by omega, p3, by omega, by rw [gz4.ob hTz p3 p4]; exact p5.mono gz4 hTz⟩
    · rw [eprs] at hqq
      rcases List.mem_append.mp hqq with h | h
      · exact pz.2 qq h
      · rw [List.mem_singleton.mp h]; exact nk2.2.2.2
    · rw [gz4.ob hTz d0 d1, ed, hrest]
    · rw [eprs, ← hrest]; exact hgj
