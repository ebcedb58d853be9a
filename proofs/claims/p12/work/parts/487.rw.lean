-- deps: 486
theorem implies_q [DecidableEq Ob] : Ob.implies ≠ Ob.quote := Ob.sym_ne (by decide)
theorem rw_start [DecidableEq Ob] {u0 : iST} {E : Sp.Env} {Q : Int → iST → Prop} {d : Nat} (hT0 : TI u0) (hE : EnvS u0 E) (ih : RwG u0 E Q d) : StG u0 E Q d := by
  intro v0 v s k tr hI hJ nk h61 h104 h109 hd hO
  obtain ⟨h92, h93, h94⟩ := hJ
  have hT := hI.2.1.1.1
  have hU := hI.2.1.1.2.1
  have h71 : 0 ≤ v.1 71 := by rw [hI.2.1.2.1]; exact hI.2.2.2.2.2.2.2.2.2
  obtain ⟨cx, cxe⟩ := hI.cx hT0 h109
  obtain ⟨R, hR⟩ : ∃ R, R = Sp.bd (Sp.rwStep E (Sp.rw E d) (cxL v0) (ob v k) (decide (tr ≠ 0))) (fun x => Sp.ret (Sp.fin (decide (tr ≠ 0)) x)) s := ⟨_, rfl⟩
  rw [← hR] at hO
  unfold pw_startJob
  intro _ _ x ex _
  rw [h92] at ex
  rw [ex]
  refine p_isConstant hT hU nk.1 nk.2.1 nk.2.2.1 (fun r1 hr1 => ⟨fun hz => ?_, fun hz => ?_⟩)
  · have hnc := hr1.f hz
    refine p_isVariable hT hU nk.1 nk.2.1 (fun r2 hr2 => ⟨fun hz2 => ?_, fun hz2 => ?_⟩)
    · have hcall : (ob v k).isCall = true := by
        rcases Ob.kinds (ob v k) with z | z | z
        · rw [z.1] at hnc; cases hnc
        · exact z.2.1
        · rw [hr2.f hz2] at z; exact absurd z.2.2 (by decide)
      have hstep : ∀ m, (if Ob.lft (ob v k) = Ob.ifS then Sp.bd (Sp.rw E d (cxL v0) (Ob.item (ob v k) 1) true) (fun a => Sp.rwIf (Sp.rw E d) (cxL v0) (ob v k) a (decide (tr ≠ 0)))
          else if Ob.lft (ob v k) = Ob.implies then Sp.bd (Sp.mk3 Ob.ifS (Ob.item (ob v k) 2) Ob.t Ob.nil) (fun i => Sp.bd (Sp.mk3 Ob.ifS (Ob.item (ob v k) 1) i Ob.t) (fun w => Sp.rw E d (cxL v0) w (decide (tr ≠ 0))))
          else if Ob.lft (ob v k) = Ob.not then Sp.bd (Sp.rw E d (cxL v0) (Ob.item (ob v k) 1) true) (fun a => Sp.rwNot (cxL v0) a (decide (tr ≠ 0)))
          else Sp.bd (Sp.rwArgs (fun a => Sp.rw E d (cxL v0) a false) (Ob.toList (Ob.rgt (ob v k)))) (fun as => Sp.bd (Sp.big (.pr (Ob.lft (ob v k)) (Ob.ofList as)) (as.length + 1)) (fun u => Sp.rwApply E (Sp.rw E d (cxL v0)) (cxL v0) u (decide (tr ≠ 0))))) = m → Sp.rwStep E (Sp.rw E d) (cxL v0) (ob v k) (decide (tr ≠ 0)) = m := by
        intro m hm
        unfold Sp.rwStep
        rw [if_neg (by rw [hnc]; decide), if_neg (by rw [hcall]; decide)]
        exact hm
      obtain ⟨F, l, e, f1, f2, f3, f4⟩ := nk.call hcall
      obtain ⟨l0, l1, q0, q1, eL, eRg, _⟩ := ob_lft hT nk.1 nk.2.1 (by rw [e]; rfl)
      have nk1 := nk.2.1
      have eF : Ob.lft (ob v k) = F := by rw [e]; rfl
      have known : ∀ (c : Int) (o : Ob), 0 ≤ c → c < 44 → Ob.known[c.toNat]? = some o → (v.2.1 0 k = c ↔ Ob.lft (ob v k) = o) := by
        intro c o h0 h4 ho
        rw [eL]
        exact kat hT hU c h0 h4 ho l0 (by omega)
      have callOf : ∀ o, Ob.lft (ob v k) = o → (ob v k).isCallOf o = true := fun o ho => Ob.isCallOf_iff.mpr ⟨Ob.ofList l, by rw [← ho, eF]; exact e⟩
      intro _ _ y1 ey1 _
      rw [ey1]
      refine ⟨fun n3 => ?_, fun h3 => ?_⟩
      · have ni : Ob.lft (ob v k) ≠ Ob.ifS := fun z => n3 ((known 3 _ (by decide) (by decide) rfl).mpr z)
        intro _ _ y2 ey2 _
        rw [ey2]
        refine ⟨fun n6 => ?_, fun h6 => ?_⟩
        · have nm : Ob.lft (ob v k) ≠ Ob.implies := fun z => n6 ((known 6 _ (by decide) (by decide) rfl).mpr z)
          intro _ _ y3 ey3 _
          rw [ey3]
          refine ⟨fun n15 => ?_, fun h15 => ?_⟩
          · have nn : Ob.lft (ob v k) ≠ Ob.not := fun z => n15 ((known 15 _ (by decide) (by decide) rfl).mpr z)
            rw [hstep _ rfl, if_neg ni, if_neg nm, if_neg nn, eF, show Ob.toList (Ob.rgt (ob v k)) = l by rw [e]; exact Ob.toList_ofList l] at hR
            intro _ _ t1 et1 _ _ y4 ey4 _ _ _ t2 et2 y5 ey5 _ _ _ t3 et3
            obtain ⟨i1, k1, n1, m1⟩ := hI.row et1 (by decide)
            have hr1' : t1.2.1 1 k = v.2.1 1 k := by rw [et1]; rfl
            obtain ⟨i2, k2, n2, m2⟩ := i1.row et2 (by decide)
            obtain ⟨i3, k3, n3', m3⟩ := i2.row et3 (by decide)
            clear et1 et2 et3
            have g3 : GZ f7J v t3 := ((k1 0 0).1.tr (k2 0 0).1).tr (k3 0 0).1
            have nn3 : t3.1 = v.1 := by rw [n3', n2, n1]
            have y5e : y5 = v0.1 104 := by rw [ey5, n2, n1]; exact h104
            have y4e : y4 = v.2.1 1 k := ey4.trans hr1'
            obtain ⟨nk3, ek3⟩ := nk.mono hT g3
            have er3 : ob t3 (v.2.1 1 k) = Ob.ofList l := by rw [g3.ob hT q0 (by omega), ← eRg, e]; rfl
            have r98 : t3.2.1 98 (v0.1 102) = v.2.1 1 k := by rw [m3, if_neg (by decide), m2, if_pos rfl, y4e]
            refine rw_terms hT0 hE ih hO hd f1 f2 (by rw [← eF]; exact ni) f3 l t3 s [] i3 (by rw [nn3]; exact h61) (by rw [nn3]; exact h109) (by rw [m3, if_neg (by decide), m2, if_neg (by decide), m1, if_neg (by decide)]; exact h92) (by rw [m3, if_neg (by decide), m2, if_neg (by decide), m1, if_pos rfl]) (by rw [m3, if_pos rfl]; exact y5e) nk3 (by rw [ek3, e]; rfl) (by rw [ek3]; exact eF) (by rw [r98]; exact q0) (by rw [r98, nn3]; omega) (by rw [r98]; exact er3) (fun x hx => ⟨(f4 x hx).2.mono g3 hT, (f4 x hx).1⟩) ⟨by rw [nn3]; simpa using h104, fun i hi => by simp at hi⟩ (by simp) ?_
            rw [hR]
            rfl
          · have hn := (known 15 Ob.not (by decide) (by decide) rfl).mp (Decidable.not_not.mp h15)
            rw [hstep _ rfl, if_neg ni, if_neg nm, if_pos hn] at hR
            intro _ _ t1 et1
            obtain ⟨i1, k1, n1, m1⟩ := hI.row et1 (by decide)
            clear et1
            have g1 := (k1 0 0).1
            obtain ⟨nk1', ek1⟩ := nk.mono hT g1
            obtain ⟨cx1, cxe1⟩ := i1.cx hT0 (by rw [n1]; exact h109)
            refine p_it g1.1 nk1' (by rw [ek1]; exact callOf _ hn) not_q (arOf_not E) (by decide) (by decide) (by decide) (fun a na ea => ?_)
            have ea : ob t1 a = Ob.item (ob v k) 1 := by rw [ea, ek1]; rfl
            refine rw_sub ih hO i1 hd (by rw [n1]; omega) (by rw [n1]; omega) cx1 na (fun z => absurd h61 (by rw [← n1]; exact z)) (fun _ s' h => by rw [cxe1, ea] at h; rw [hR]; exact bd_err2 h) (fun _ w s' r hev kw iw w61 w104 w109 w110 nr => ?_)
            rw [cxe1, ea] at hev
            rw [n1] at w104 w109
            refine rw_ph5 hT0 hO iw w61 (by omega) (by omega) ?_ w110 nr ?_
            · rw [kw.2.2.1 94 _ (by decide) (by decide) (by omega), m1, if_pos rfl]
            · rw [hR]
              exact bd_ok2 hev
        · have hi := (known 6 Ob.implies (by decide) (by decide) rfl).mp (Decidable.not_not.mp h6)
          rw [hstep _ rfl, if_neg ni, if_pos hi] at hR
          have hci := callOf _ hi
          refine p_it hT nk hci implies_q (arOf_implies E) (by decide) (by decide) (by decide) (fun b nb eb => ?_)
          have eb : ob v b = Ob.item (ob v k) 2 := eb
          have k3 := kn hT hU 3 (by decide) (by decide) rfl
          have z1 := kn hT hU 1 (by decide) (by decide) rfl
          have z0 := kn hT hU 0 (by decide) (by decide) rfl
          refine p_made3 hT hU h71 k3.1 k3.2.1 (by rw [k3.2.2]; exact Ob.sym_isSym _) (by rw [k3.2.2]; exact ifS_q) nb.1 nb.2.1 nb.2.2.1 z1.1 z1.2.1 (Tm_leaf (by rw [z1.2.2]; rfl)) z0.1 z0.2.1 (Tm_leaf (by rw [z0.2.2]; rfl)) (fun x w hG x0 x1 ex tx fx => ?_)
          rw [k3.2.2, z1.2.2, z0.2.2, eb] at ex
          have nx : Nd w E x := Nd_mk3 x0 x1 ex tx ifS_q (Ob.sym_isSym _) (arOf_ifS E) (by rw [← eb]; exact nb.2.2.2) (Ob.wt_leaf rfl) (Ob.wt_leaf rfl)
          have hm1 : MK (Sp.mk3 Ob.ifS (Ob.item (ob v k) 2) Ob.t Ob.nil) s w x := MK_big (n := 4) h61 ex fx
          have hTw := hG.1.1
          have hUw := hG.1.2.1
          obtain ⟨nkw, ekw⟩ := nk.mono hT hG.1
          refine p_it hTw nkw (by rw [ekw]; exact hci) implies_q (arOf_implies E) (by decide) (by decide) (by decide) (fun a na ea => ?_)
          have ea : ob w a = Ob.item (ob v k) 1 := by rw [ea, ekw]; rfl
          have k3w := kn hTw hUw 3 (by decide) (by decide) rfl
          have z1w := kn hTw hUw 1 (by decide) (by decide) rfl
          refine p_made3 hTw hUw (by rw [hG.2.1]; exact h71) k3w.1 k3w.2.1 (by rw [k3w.2.2]; exact Ob.sym_isSym _) (by rw [k3w.2.2]; exact ifS_q) na.1 na.2.1 na.2.2.1 nx.1 nx.2.1 nx.2.2.1 z1w.1 z1w.2.1 (Tm_leaf (by rw [z1w.2.2]; rfl)) (fun y w2 hG2 y0 y1 ey ty fy => ?_)
          rw [k3w.2.2, z1w.2.2, ea] at ey
          have ny : Nd w2 E y := Nd_mk3 y0 y1 ey ty ifS_q (Ob.sym_isSym _) (arOf_ifS E) (by rw [← ea]; exact na.2.2.2) nx.2.2.2 (Ob.wt_leaf rfl)
          refine rw_passMK hT0 ih hO hI hd h104 h109 (hG.tr hG2) ny (m := Sp.bd (Sp.mk3 Ob.ifS (Ob.item (ob v k) 2) Ob.t Ob.nil) (fun i => Sp.mk3 Ob.ifS (Ob.item (ob v k) 1) i Ob.t)) ?_ (by rw [hR, bd_assoc (Sp.mk3 Ob.ifS (Ob.item (ob v k) 2) Ob.t Ob.nil) (fun i => Sp.mk3 Ob.ifS (Ob.item (ob v k) 1) i Ob.t)])
          rcases hm1 with ⟨s1, e1, es1, w61⟩ | ⟨s1, e1, es1, w61⟩
          · have hm2 := MK_big (n := 4) (s := s1) w61 ey fy
            rcases hm2 with ⟨s2, e2, es2, w261⟩ | ⟨s2, e2, es2, w261⟩
            · exact Or.inl ⟨s2, (bind_ok e1).trans e2, by omega, w261⟩
            · exact Or.inr ⟨s2, (bind_ok e1).trans e2, by omega, w261⟩
          · exact Or.inr ⟨s1, bind_err e1, es1, by rw [fy]; exact bw_ne w61⟩
      · have hi := (known 3 Ob.ifS (by decide) (by decide) rfl).mp (Decidable.not_not.mp h3)
        rw [hstep _ rfl, if_pos hi] at hR
        intro _ _ t1 et1
        obtain ⟨i1, k1, n1, m1⟩ := hI.row et1 (by decide)
        clear et1
        have g1 := (k1 0 0).1
        obtain ⟨nk1', ek1⟩ := nk.mono hT g1
        obtain ⟨cx1, cxe1⟩ := i1.cx hT0 (by rw [n1]; exact h109)
        refine p_it g1.1 nk1' (by rw [ek1]; exact callOf _ hi) ifS_q (arOf_ifS E) (by decide) (by decide) (by decide) (fun a na ea => ?_)
        have ea : ob t1 a = Ob.item (ob v k) 1 := by rw [ea, ek1]; rfl
        refine rw_sub ih hO i1 hd (by rw [n1]; omega) (by rw [n1]; omega) cx1 na (fun z => absurd h61 (by rw [← n1]; exact z)) (fun _ s' h => by rw [cxe1, ea] at h; rw [hR]; exact bd_err2 h) (fun _ w s' r hev kw iw w61 w104 w109 w110 nr => ?_)
        rw [cxe1, ea] at hev
        rw [n1] at w104 w109
        obtain ⟨nkw, ekw⟩ := nk.mono hT (g1.tr kw.1)
        refine rw_ph1 (k := k) hT0 ih hO iw hd w61 (by omega) (by omega) ?_ ?_ w110 nkw (by rw [ekw]; exact callOf _ hi) nr ?_
        · rw [kw.2.2.1 94 _ (by decide) (by decide) (by omega), m1, if_pos rfl]
        · rw [kw.2.2.1 92 _ (by decide) (by decide) (by omega), m1, if_neg (by decide)]; exact h92
        · rw [hR, ekw]
          exact bd_ok2 hev
    · intro _ _ y ey _
      rw [h93] at ey
      rw [ey]
      refine p_lookedUp hT hU cx nk (fun z nz ez => ?_)
      refine rw_end hO hI h104 h109 nz (fun _ => ?_) (fun z => absurd h61 z)
      have hncall : (ob v k).isCall = false := by
        rcases Ob.kinds (ob v k) with z | z | z
        · exact z.2.1
        · have := hr2.t hz2; rw [this] at z; exact absurd z.2.2 (by decide)
        · exact z.2.1
      rw [hR]
      unfold Sp.rwStep
      rw [if_neg (by rw [hnc]; decide), if_pos (by rw [hncall]; rfl), ez, cxe]
      rfl
  · refine rw_end hO hI h104 h109 nk (fun _ => ?_) (fun z => absurd h61 z)
    rw [hR]
    unfold Sp.rwStep
    rw [if_pos (hr1.t hz)]
    rfl
/-- REWRITING at every depth -/
theorem rw_all [DecidableEq Ob] {u0 : iST} {E : Sp.Env} (hT0 : TI u0) (hE : EnvS u0 E) (Q : Int → iST → Prop) : ∀ d, RwG u0 E Q d
  | 0 => rw_zero
  | d + 1 => rw_begin (rw_start hT0 hE (rw_all hT0 hE Q d))
/-- a term is REWRITTEN -/
theorem p_rewritten [DecidableEq Ob] {k tr : Int} {Q : Int → iST → Prop} {u : iST} {E : Sp.Env} (hT : TI u) (hU : TU u) (hE : EnvS u E) (cx : CxOk u E) (nk : Nd u E k) (h71 : 0 ≤ u.1 71) (h64 : u.1 64 = 0) (h61 : u.1 61 = 0) {s : Sp.Wk} (hs : StL u s)
    (hok : ∀ r s' w, Sp.rw E 60 (cxL u) (ob u k) (decide (tr ≠ 0)) s = .ok (ob w r) s' → GZ f7J u w → w.1 71 = u.1 71 → w.1 109 = u.1 109 → (∀ i, i < u.1 109 → w.2.1 108 i = u.2.1 108 i) → w.1 64 = 0 → StL w s' → w.1 61 = 0 → Nd w E r → Q r w)
    (hbad : ∀ r s' w, Sp.rw E 60 (cxL u) (ob u k) (decide (tr ≠ 0)) s = .error () s' → GZ f7J u w → StL w s' → w.1 64 = 0 → w.1 61 ≠ 0 → Q r w) : pw_rewritten k tr Q u := by
  unfold pw_rewritten
  intro w1 e1 w2 e2 _ w3 e3
  have k1 : RK 0 0 (u.1 109) u w1 := by rw [e1]; exact RK_I hT hU (by decide) (by decide) (by decide) _ _ _
  have k2 : RK 0 0 (u.1 109) w1 w2 := by rw [e2]; exact RK_I k1.1.1 k1.1.2.1 (by decide) (by decide) (by decide) _ _ _
  have k3 : RK 0 0 (u.1 109) w2 w3 := by rw [e3]; exact RK_I k2.1.1 k2.1.2.1 (by decide) (by decide) (by decide) _ _ _
  have kk := (k1.tr k2 (Int.le_refl _) (Int.le_refl _) (Int.le_refl _)).tr k3 (Int.le_refl _) (Int.le_refl _) (Int.le_refl _)
  have n : ∀ m, m ≠ 102 → m ≠ 104 → m ≠ 111 → w3.1 m = u.1 m := fun m a b c => by rw [e3, e2, e1]; exact (if_neg c).trans ((if_neg b).trans (if_neg a))
  have m102 : w3.1 102 = 0 := by rw [e3, e2, e1]; rfl
  have m104 : w3.1 104 = 0 := by rw [e3, e2]; rfl
  clear e1 e2 e3
  obtain ⟨cx3, cxe3⟩ := cx.keep hT kk (n 109 (by decide) (by decide) (by decide))
  obtain ⟨nk3, ek3⟩ := nk.mono hT kk.1
  have h109 := n 109 (by decide) (by decide) (by decide)
  refine rw_all hT hE Q 60 w3 s k tr kk.1 (by omega) (by omega) (by omega) (by rw [kk.2.1]; exact h71) (by rw [n 64 (by decide) (by decide) (by decide)]; exact h64) (by unfold StL; rw [n 60 (by decide) (by decide) (by decide), n 59 (by decide) (by decide) (by decide)]; exact hs) (by rw [n 61 (by decide) (by decide) (by decide)]; exact h61) nk3 cx3 (fun w s' r hev kw w102 w104 w109 w64 wS w61 w110 w111 nr => ?_) (fun w s' hev gw wS w64 w61 => ?_)
  · rw [cxe3, ek3] at hev
    refine fo_w_rewritten_21 ?_
    unfold pw_rewritten_21b
    intro x ex _
    rw [ex]
    refine ⟨fun z => absurd w61 z, fun _ => ?_⟩
    intro x ex _
    rw [ex]
    refine ⟨fun _ => ?_, fun z => by omega⟩
    intro y ey _
    rw [ey, w110]
    refine hok r s' w hev (kk.1.tr kw.1) (kw.2.1.trans kk.2.1) (w109.trans h109) (fun i hi => ?_) w64 wS w61 nr
    rw [kw.2.2.2.2.2.2 i (by omega), kk.2.2.2.2.2.2 i hi]
  · rw [cxe3, ek3] at hev
    refine fo_w_rewritten_21 ?_
    unfold pw_rewritten_21b
    intro x ex _
    rw [ex]
    refine ⟨fun _ => ?_, fun z => absurd w61 z⟩
    intro y ey _
    exact hbad y s' w hev gw wS w64 w61
