-- deps: 477
/-- the test of an IF has come -/
theorem rw_ph1 [DecidableEq Ob] {u0 : iST} {E : Sp.Env} {Q : Int → iST → Prop} {d : Nat} (hT0 : TI u0) (ih : RwG u0 E Q d) {v0 w : iST} {R : EStateM.Result Unit Sp.Wk Ob} {tr : Int} {s : Sp.Wk} (hO : Owe u0 E Q v0 R) (hI : InJ u0 E v0 w tr s) (hd : v0.1 102 + 1 + (d : Int) = 60) (h61 : w.1 61 = 0) (h104 : w.1 104 = v0.1 104) (h109 : w.1 109 = v0.1 109) {k r : Int} (h94 : w.2.1 94 (v0.1 102) = 1) (h92 : w.2.1 92 (v0.1 102) = k) (h110 : w.1 110 = r) (nk : Nd w E k) (hif : (ob w k).isCallOf Ob.ifS = true) (nr : Nd w E r)
    (hR : R = Sp.bd (Sp.rwIf (Sp.rw E d) (cxL v0) (ob w k) (ob w r) (decide (tr ≠ 0))) (fun y => Sp.ret (Sp.fin (decide (tr ≠ 0)) y)) s) : pw_takeResult (v0.1 102) (fun w => pw_rewritten_21 Q w) w := by
  have hT := hI.2.1.1.1
  unfold pw_takeResult
  intro _ t et _ _ p ep _
  obtain ⟨it, kt, t2, tn⟩ := hI.num et (by decide)
  have hp : p = 1 := by rw [ep, t2]; exact h94
  clear et ep
  subst hp
  refine ⟨fun _ => ?_, fun n => absurd rfl n⟩
  have gt := (kt 0 0 0).1
  have hTt := gt.1
  have hUt := gt.2.1
  obtain ⟨nkt, ekt⟩ := nk.mono hT gt
  obtain ⟨nrt, ert⟩ := nr.mono hT gt
  have hift : (ob t k).isCallOf Ob.ifS = true := by rw [ekt]; exact hif
  have q : ∀ n, n ≠ 111 → t.1 n = w.1 n := fun n a => by rw [tn, if_neg a]
  obtain ⟨cxt, cxet⟩ := it.cx hT0 (by rw [q 109 (by decide)]; exact h109)
  have z0 := kat hTt hUt 0 (by decide) (by decide) rfl nrt.1 nrt.2.1
  rw [← ekt, ← ert] at hR
  unfold pw_test
  intro _ _ x ex _ y ey _
  have hx : x = k := by rw [ex, t2]; exact h92
  have hy : y = r := by rw [ey, q 110 (by decide)]; exact h110
  rw [hx, hy]
  refine p_isConstant hTt hUt nrt.1 nrt.2.1 nrt.2.2.1 (fun r1 hr1 => ⟨fun hd1 => ?_, fun hd1 => ?_⟩)
  · have hnc := hr1.f hd1
    -- the branches, with what is assumed
    have go : ∀ (a pb pc v5 : Int), Nd t E a → ob t a = (if Ob.isCallOf (ob t r) Ob.not then Ob.item (ob t r) 1 else ob t r) → (v5 = 0 ∧ pb = 2 ∧ pc = 3 ∧ Ob.isCallOf (ob t r) Ob.not = false ∨ v5 ≠ 0 ∧ pb = 3 ∧ pc = 2 ∧ Ob.isCallOf (ob t r) Ob.not = true) → pw_test_81 (fun w => pw_rewritten_21 Q w) (v0.1 102) k v5 (v0.1 102) a t := by
      intro a pb pc v5 na ea hsel
      have ebc : Ob.item (ob t k) (if Ob.isCallOf (ob t r) Ob.not then 3 else 2) = Ob.item (ob t k) pb.toNat ∧ Ob.item (ob t k) (if Ob.isCallOf (ob t r) Ob.not then 2 else 3) = Ob.item (ob t k) pc.toNat := by
        rcases hsel with ⟨_, h2, h3, h4⟩ | ⟨_, h2, h3, h4⟩
        · rw [h4, h2, h3]; exact ⟨rfl, rfl⟩
        · rw [h4, h2, h3]; exact ⟨rfl, rfl⟩
      have hpb : 1 ≤ pb ∧ pb ≤ 3 := by omega
      have hpc : 1 ≤ pc ∧ pc ≤ 3 := by omega
      have hR2 : R = Sp.bd (Sp.bd (Sp.rw E d (cxL v0 ++ [ob t a]) (Ob.item (ob t k) pb.toNat) (decide (tr ≠ 0))) fun b => Sp.bd (Sp.mkNot (ob t a)) fun nA => Sp.bd (Sp.pay 1) fun _ => Sp.bd (Sp.rw E d (cxL v0 ++ [nA]) (Ob.item (ob t k) pc.toNat) (decide (tr ≠ 0))) fun c => Sp.rwJoin (decide (tr ≠ 0)) (ob t a) b c) (fun y => Sp.ret (Sp.fin (decide (tr ≠ 0)) y)) (s.1, s.2 + 1) := by
        rw [hR]
        unfold Sp.rwIf
        rw [if_neg (by rw [hnc]; decide), ← ea, ebc.1, ebc.2]
        exact bd_ok2 (x := Sp.pay 1) rfl
      clear hR
      have last : ∀ t' : iST, t'.1 = t.1 → GZ f7J t t' → InJ u0 E v0 t' tr s → (∀ m, t'.2.1 m (v0.1 102) = if m = 95 then a else t.2.1 m (v0.1 102)) → CxOk t' E → cxL t' = cxL v0 → pw_test_98 (fun w => pw_rewritten_21 Q w) (v0.1 102) k v5 (v0.1 102) k pc t' := by
        intro t' n1 g1 i1 m1 cx1 cxe1
        obtain ⟨nk1, ek1⟩ := nkt.mono hTt g1
        unfold pw_test_98
        refine p_it g1.1 nk1 (by rw [ek1]; exact hift) ifS_q (arOf_ifS E) hpc.1 hpc.2 (by decide) (fun c nc ec => ?_)
        intro _ _ t2' et2 _ _ y1 ey1 _
        obtain ⟨i2, k2, n2, m2⟩ := i1.row et2 (by decide)
        clear et2
        have hy1 : y1 = a := by rw [ey1, m2, if_neg (by decide), m1, if_pos rfl]
        rw [hy1]
        have g2 : GZ f7J t t2' := g1.tr (k2 0 0).1
        obtain ⟨na2, ea2⟩ := na.mono hTt g2
        obtain ⟨cx2, cxe2⟩ := cx1.keep g1.1 (k2 0 (t'.1 109)) (by rw [n2])
        have c109 : t2'.1 109 = v0.1 109 := by rw [n2, n1, q 109 (by decide)]; exact h109
        refine rw_push i2 cx2 (by omega) na2 (fun t3 i3 k3 t3109 n3 r3 cx3 cxe3 => ?_)
        intro _ _ t4 et4
        obtain ⟨i4, k4, n4, m4⟩ := i3.row et4 (by decide)
        clear et4
        have g24 : GZ f7J t2' t4 := (k3 0 0).1.tr (k4 0 0).1
        have g4 : GZ f7J t t4 := g2.tr g24
        obtain ⟨nk4, ek4⟩ := nkt.mono hTt g4
        obtain ⟨nc4, ec4⟩ := nc.mono g1.1 ((k2 0 0).1.tr g24)
        obtain ⟨na4, ea4⟩ := na.mono hTt g4
        obtain ⟨cx4, cxe4⟩ := cx3.keep (k3 0 0).1.1 (k4 0 (t3.1 109)) (by rw [n4])
        have hcx4 : cxL t4 = cxL v0 ++ [ob t a] := by rw [cxe4, cxe3, cxe2, cxe1, ea2]
        have e61 : t4.1 61 = 0 := by rw [n4, n3 61 (by decide), n2, n1, q 61 (by decide)]; exact h61
        have e104 : t4.1 104 = v0.1 104 := by rw [n4, n3 104 (by decide), n2, n1, q 104 (by decide)]; exact h104
        have e109 : t4.1 109 = v0.1 109 + 1 := by rw [n4, t3109, c109]
        have rows : ∀ n, n ≠ 94 → n ≠ 108 → t4.2.1 n (v0.1 102) = if n = 97 then c else if n = 95 then a else t.2.1 n (v0.1 102) := fun n a b => by
          rw [m4, if_neg a, r3 n b, m2]
          by_cases c : n = 97
          · rw [if_pos c, if_pos c]
          · rw [if_neg c, if_neg c, m1]
        have beg : pw_test_131 (fun w => pw_rewritten_21 Q w) (v0.1 102) k pb t4 := by
          unfold pw_test_131
          refine p_it g4.1 nk4 (by rw [ek4]; exact hift) ifS_q (arOf_ifS E) hpb.1 hpb.2 (by decide) (fun b nb eb => ?_)
          rw [ek4] at eb
          intro _ _ y2 ey2 _
          have hy2 : y2 = tr := by rw [ey2]; exact i4.2.2.2.2.2.1
          rw [hy2]
          refine rw_sub (s := (s.1, s.2 + 1)) ih hO (i4.st rfl) hd (by omega) (by omega) cx4 nb (fun z => absurd e61 z) (fun _ s' h => by rw [hcx4, eb] at h; rw [hR2, bd_err2 h]) (fun _ z s' x hev kz iz z61 z104 z109 z110 nx => ?_)
          rw [hcx4, eb] at hev
          rw [bd_ok2 hev] at hR2
          obtain ⟨naz, eaz⟩ := na4.mono g4.1 kz.1
          obtain ⟨ncz, ecz⟩ := nc4.mono g4.1 kz.1
          have ec5 : ob z c = Ob.item (ob t k) pc.toNat := by rw [ecz, ec4, ec, ek1]
          refine rw_ph3 hT0 ih hO iz hd z61 (by omega) (by omega) (a := a) (c := c) ?_ ?_ ?_ z110 naz ncz nx (by rw [eaz, ea4, ec5]; exact hR2)
          · rw [kz.2.2.1 94 _ (by decide) (by decide) (by omega), m4, if_pos rfl]
          · rw [kz.2.2.1 95 _ (by decide) (by decide) (by omega), rows 95 (by decide) (by decide)]; rfl
          · rw [kz.2.2.1 97 _ (by decide) (by decide) (by omega), rows 97 (by decide) (by decide)]; rfl
        rcases hsel with ⟨h1, h2, _⟩ | ⟨h1, h2, _⟩
        · rw [h2] at beg; exact ⟨fun _ => beg, fun z => absurd h1 z⟩
        · rw [h2] at beg; exact ⟨fun z => absurd z h1, fun _ => beg⟩
      unfold pw_test_81
      intro _ _ t' et'
      obtain ⟨i1, k1, n1, m1⟩ := it.row et' (by decide)
      clear et'
      obtain ⟨cx1, cxe1⟩ := cxt.keep hTt (k1 0 (t.1 109)) (by rw [n1])
      have l98 := last t' n1 (k1 0 0).1 i1 m1 cx1 (cxe1.trans cxet)
      rcases hsel with ⟨h1, _, h3, _⟩ | ⟨h1, _, h3, _⟩
      · rw [h3] at l98; exact ⟨fun _ => l98, fun z => absurd h1 z⟩
      · rw [h3] at l98; exact ⟨fun z => absurd z h1, fun _ => l98⟩
    intro z ez _
    rw [q 110 (by decide), h110] at ez
    rw [ez]
    refine p_callK hTt hUt nrt.1 nrt.2.1 15 (by decide) (by decide) rfl (fun r5 h5 => ⟨fun he => ?_, fun he => ?_⟩)
    · intro z ez _
      rw [q 110 (by decide), h110] at ez
      rw [ez]
      have hn := h5.f he
      exact go r 2 3 r5 nrt (by rw [if_neg (by rw [hn]; decide)]) (Or.inl ⟨he, rfl, rfl, hn⟩)
    · have hn := h5.t he
      obtain ⟨x1, ex1, wx1⟩ := Ob.wt_one nrt.2.2.2 hn not_q (arOf_not E)
      obtain ⟨_, _, q0, q1, _, _, ep⟩ := ob_lft hTt nrt.1 nrt.2.1 (by rw [ex1]; rfl)
      have nr21 := nrt.2.1
      have er : ob t (t.2.1 1 r) = .pr x1 Ob.nil := by rw [ex1] at ep; exact (Ob.pr.inj ep).2.symm
      obtain ⟨m0, m1, _, _, _, _, ep2⟩ := ob_lft hTt q0 (by omega) (by rw [er]; rfl)
      have em : ob t (t.2.1 0 (t.2.1 1 r)) = x1 := by rw [er] at ep2; exact (Ob.pr.inj ep2).1.symm
      intro z ez _ _ _ z1 ez1 _ _ _ z2 ez2 _
      rw [q 110 (by decide), h110] at ez
      rw [ez] at ez1
      rw [ez1] at ez2
      rw [ez2]
      refine go _ 3 2 r5 ⟨m0, by omega, ?_, by rw [em]; exact wx1⟩ ?_ (Or.inr ⟨he, rfl, rfl, hn⟩)
      · rw [em]
        have := nrt.2.2.1
        rw [ex1] at this
        exact (Tm_call this not_q).2.1.1
      · rw [if_pos hn, em, ex1]; rfl
  · have hcn := hr1.t hd1
    intro z ez _
    rw [q 110 (by decide), h110] at ez
    rw [ez]
    have fin : ∀ pb : Int, 1 ≤ pb → pb ≤ 3 → Ob.item (ob t k) (if ob t r = Ob.nil then 3 else 2) = Ob.item (ob t k) pb.toNat → pw_test_33 (fun w => pw_rewritten_21 Q w) k pb t := by
      intro pb p1 p2 ei
      unfold pw_test_33
      refine p_it hTt nkt hift ifS_q (arOf_ifS E) p1 p2 (by decide) (fun b nb eb => ?_)
      refine rw_pass hT0 ih hO it hd (by rw [q 104 (by decide)]; exact h104) (by rw [q 109 (by decide)]; exact h109) nb (fun _ => ?_) (fun z => absurd h61 (by rw [← q 61 (by decide)]; exact z))
      rw [hR, eb, ← ei]
      unfold Sp.rwIf
      rw [if_pos hcn]
    refine ⟨fun he => fin 2 (by decide) (by decide) (by rw [if_neg (fun z => he (z0.mpr z))]; rfl), fun he => fin 3 (by decide) (by decide) (by rw [if_pos (z0.mp (Decidable.not_not.mp he))]; rfl)⟩
