-- deps: 461
/-- an IF is evaluated -/
theorem ev_goIf [DecidableEq Ob] {u0 : iST} {E : Sp.Env} {lim : Int} {Q : Int → iST → Prop} {d : Nat} (ih : EvG u0 E lim Q d) {env : Ob → Ob} {D B c k b : Int} (h0 : 0 ≤ c) (hd : c + 1 + (d : Int) = 300) {x y z : Ob} {v : iST} {s : Sp.Ek} (hG : GZ f7E u0 v) (h85 : v.1 85 = c + 1) (h87 : v.1 87 = b) (b0 : 0 ≤ b) (hL : EvL lim v s) (h89 : v.1 89 = 0) (h90 : v.1 90 = 0) (hF : EvR v c k b D B 0)
    (k0 : 0 ≤ k) (k1 : k < v.1 8) (ek : ob v k = .pr Ob.ifS (Ob.ofList [x, y, z])) (hr : v.2.1 80 c = v.2.1 1 k) (ht : ∀ a, a ∈ [x, y, z] → Tm v a ∧ Ob.wt (Sp.arOf E) a ∧ EvV v D B env a)
    (hq : ∀ r s' w, Sp.bd (Sp.ev E d env x) (fun a => Sp.ev E d env (if a = Ob.nil then z else y)) s = .ok (ob w r) s' → EvF c b v w → w.1 85 = c → w.1 87 = b → EvL lim w s' → w.1 89 = 0 → w.1 90 = 1 → w.1 91 = r → 0 ≤ r → r < w.1 8 → pw_evaluated_29 Q lim w)
    (hf : ∀ e s' w, Sp.bd (Sp.ev E d env x) (fun a => Sp.ev E d env (if a = Ob.nil then z else y)) s = .error e s' → GZ f7E u0 w → e ≠ 0 → w.1 89 = e → w.1 60 + (s'.1 : Int) = w.1 59 → pw_evaluated_29 Q lim w) :
    pw_evaluated_29 Q lim v := by
  have hT := hG.1
  have hU := hG.2.1
  obtain ⟨l0, l1, q0, q1, _, _, ep⟩ := ob_lft hT k0 k1 (by rw [ek]; rfl)
  rw [ek] at ep
  have ea := (Ob.pr.inj ep).1
  have eb := (Ob.pr.inj ep).2
  have k3 : v.2.1 0 k = 3 := (kat hT hU 3 (by decide) (by decide) rfl l0 (by omega)).mpr ea.symm
  obtain ⟨tx, wx, vx⟩ := ht x (by simp)
  refine ev_one ih h0 hd (a := x) (l := [y, z]) hG h85 (by omega) hL h89 h90 hF (by rw [hr]; exact q0) (by rw [hr]; omega) (by rw [hr]; exact eb.symm) tx wx vx (fun r s1 w hev gw w85 w87 wL w89 w90 w91 wr0 wr1 wF => ?_) (fun e s' w hev => hf e s' w (bind_err hev))
  have hTw := gw.1.1
  have hUw := gw.1.2.1
  have hlw := gw.1.le
  have wF' := wF
  obtain ⟨f1, f2, f3, f4, f5⟩ := wF
  have wk : w.2.1 0 k = 3 := ((gw.1.2.2.1.2.1 k k0 k1).1).trans k3
  refine fo_w_evaluated_29 ?_
  unfold pw_evaluated_29b
  intro x1 ex1 _
  subst ex1
  refine ⟨fun z => absurd w89 z, fun _ => ?_⟩
  intro x1 ex1 _
  subst ex1
  refine ⟨fun z => by omega, fun _ => ?_⟩
  intro x1 ex1 _
  subst ex1
  refine ⟨fun z => by omega, fun _ => ?_⟩
  unfold pw_evaluated_50
  intro x1 ex1 _
  subst ex1
  refine ⟨fun z => by omega, fun _ => ?_⟩
  unfold pw_takeValue
  intro x1 ex1 _ _ _ _ y1 ey1 _
  subst ex1 ey1
  have e2 : w.1 85 - 1 = c := by omega
  rw [e2, f5]
  refine ⟨fun _ => ?_, fun z => absurd rfl z⟩
  intro _ _ y1 ey1 _ _ _ y2 ey2 _
  rw [f1] at ey1
  rw [ey1, wk] at ey2
  subst ey2
  refine ⟨fun z => absurd rfl z, fun _ => ?_⟩
  intro _ _ _ t et _ _ y3 ey3 _ y4 ey4 _
  have g1 : EvF c b w t := by subst et; exact EvF_A hTw hUw (by decide) (by decide) (fun _ => Int.le_refl _) (fun n => by cases n)
  have t1 : t.1 = w.1 := by rw [et]; rfl
  have tF : EvR t c k b D B 1 := by rw [et]; exact ⟨f1, f2, f3, f4, if_pos rfl⟩
  clear et
  have e3 : y3 = k := ey3.trans tF.1
  have e4 : y4 = r := by rw [ey4, t1]; exact w91
  rw [e3, e4]
  have hTt := g1.1.1
  have hUt := g1.1.2.1
  have gvt : EvF c b v t := (gw.mono (Int.le_refl _) (by omega)).tr g1 (Int.le_refl _) (Int.le_refl _)
  have hlt := gvt.1.le
  have t8 : t.1 8 = w.1 8 := by rw [t1]
  have ekt : ob t k = .pr Ob.ifS (Ob.ofList [x, y, z]) := (gvt.1.ob hT k0 k1).trans ek
  have er : ob t r = ob w r := g1.1.ob hTw wr0 wr1
  have r0 := kat hTt hUt 0 (by decide) (by decide) rfl wr0 (by omega : r < t.1 8)
  have go : ∀ (n : Int) (o : Ob), (n = 2 ∧ o = y ∧ ob w r ≠ Ob.nil ∨ n = 3 ∧ o = z ∧ ob w r = Ob.nil) → pw_takeValue_81 (fun u => pw_evaluated_29 Q lim u) lim c k n t := by
    intro n o hn
    have hsel : (if ob w r = Ob.nil then z else y) = o := by
      rcases hn with ⟨_, h2, h3⟩ | ⟨_, h2, h3⟩
      · rw [if_neg h3, h2]
      · rw [if_pos h3, h2]
    obtain ⟨to, wo, vo⟩ : Tm v o ∧ Ob.wt (Sp.arOf E) o ∧ EvV v D B env o := by
      rcases hn with ⟨_, h2, h3⟩ | ⟨_, h2, h3⟩ <;> rw [h2] <;> exact ht _ (by simp)
    unfold pw_takeValue_81
    refine p_term hTt k0 (by omega) (by omega) (by omega) ?_ (fun j j0 j1 ej => ?_)
    · rw [ekt]
      rcases hn with ⟨h1, _⟩ | ⟨h1, _⟩ <;> rw [h1] <;> trivial
    · have ej2 : ob t j = o := by
        rw [ej, ekt]
        rcases hn with ⟨h1, h2, _⟩ | ⟨h1, h2, _⟩ <;> rw [h1, h2] <;> rfl
      intro _ _ y5 ey5 _ _ _ y6 ey6 _
      have e5 : y5 = D := ey5.trans tF.2.2.1
      have e6 : y6 = B := ey6.trans tF.2.2.2.1
      rw [e5, e6]
      refine ih env o t s1 j D B (hG.tr gvt.1) (by rw [t1]; omega) (by rw [t1]; omega) (by rw [t1]; omega) (by unfold EvL; rw [t1]; exact wL) (by rw [t1]; exact w89) j0 j1 ej2 (to.mono gvt.1 hT) wo (vo.mono hT (by rw [h87]; exact gvt) (by rw [t1]; omega)) (fun r2 s2 p hev2 gp p85 p87 pL p89 p90 p91 pr0 pr1 => ?_) (fun e s' p hev2 => hf e s' p (by rw [bind_ok hev, hsel]; exact hev2))
      have pF := tF.keep gp (by rw [t1]; omega)
      have p85' : p.1 85 = c + 1 := by rw [p85, t1]; exact w85
      have p87' : p.1 87 = b := by rw [p87, t1]; omega
      refine ev_pop (v := v) gp.1.1 gp.1.2.1 p85' h0 pF p89 p90 (fun q gq q85 q87 q89 q90 q91 q60 q88 => ?_)
      have hqo : ob q r2 = ob p r2 := gq.1.ob gp.1.1 pr0 pr1
      refine hq r2 s2 q (by rw [bind_ok hev, hsel, hev2, hqo]) ((gvt.tr gp (by rw [t1]; omega) (by rw [t1]; omega)).tr gq (Int.le_refl _) (by omega)) q85 q87 ?_ q89 q90 (q91.trans p91) pr0 (by have := gq.1.le; omega)
      unfold EvL
      rw [q60, q88, (gq.1.2.2.2.2 59 (by decide)).1]
      exact pL
  refine ⟨fun hz => go 2 y (Or.inl ⟨rfl, rfl, fun e => hz (r0.mpr (er.trans e))⟩), fun hz => go 3 z (Or.inr ⟨rfl, rfl, ?_⟩)⟩
  rw [← er]
  exact r0.mp (Decidable.not_not.mp hz)
/-- a call whose terms are evaluated -/
theorem ev_goCall [DecidableEq Ob] {u0 : iST} {E : Sp.Env} (hT0 : TI u0) (hD : DOk u0 E) (h57 : u0.1 57 = -1) (hW : Sp.DWf E) {lim : Int} {Q : Int → iST → Prop} {d : Nat} (ih : EvG u0 E lim Q d) {D B c k b : Int} (h0 : 0 ≤ c) (hd : c + 1 + (d : Int) = 300) {f : Ob} {n : Nat} {v : iST} {s : Sp.Ek} (hG : GZ f7E u0 v) (h85 : v.1 85 = c + 1) (b0 : 0 ≤ b) (h87 : v.1 87 = b + (n : Int)) (hL : EvL lim v s) (h89 : v.1 89 = 0) (h90 : v.1 90 = 0) (hF : EvR v c k b D B 0) (h80 : v.2.1 80 c = 0)
    (k0 : 0 ≤ k) (k1 : k < v.1 8) (ekp : (ob v k).isPr = true) (ek : (ob v k).lft = f) (hif : f ≠ Ob.ifS) (har : Sp.arOf E f = (n : Int)) (hvs : EvS v b n)
    (hq : ∀ r s' w, Sp.evCall E d f (vl v b n) s = .ok (ob w r) s' → EvF c b v w → w.1 85 = c → w.1 87 = b → EvL lim w s' → w.1 89 = 0 → w.1 90 = 1 → w.1 91 = r → 0 ≤ r → r < w.1 8 → pw_evaluated_29 Q lim w)
    (hf : ∀ e s' w, Sp.evCall E d f (vl v b n) s = .error e s' → GZ f7E u0 w → e ≠ 0 → w.1 89 = e → w.1 60 + (s'.1 : Int) = w.1 59 → pw_evaluated_29 Q lim w) :
    pw_evaluated_29 Q lim v := by
  have hT := hG.1
  have hU := hG.2.1
  obtain ⟨l0, l1, q0, q1, el, _, _⟩ := ob_lft hT k0 k1 ekp
  have ef : ob v (v.2.1 0 k) = f := el.symm.trans ek
  have hF' := hF
  obtain ⟨f1, f2, f3, f4, f5⟩ := hF
  have hDv : DOk v E := hD.mono hT0 hG (DSm.of hG.2.2.2.2 (by decide) (by decide) (by decide) (by decide) (by decide) (by decide) (by decide))
  have v57 : v.1 57 = -1 := (hG.2.2.2.2 57 (by decide)).1.trans h57
  refine fo_w_evaluated_29 ?_
  unfold pw_evaluated_29b
  intro x1 ex1 _
  subst ex1
  refine ⟨fun z => absurd h89 z, fun _ => ?_⟩
  intro x1 ex1 _
  subst ex1
  refine ⟨fun _ => ?_, fun z => absurd h90 z⟩
  unfold pw_evaluated_50
  intro x1 ex1 _
  subst ex1
  refine ⟨fun _ => ?_, fun z => absurd h90 z⟩
  unfold pw_goOn
  intro x1 ex1 _ _ _ _ y1 ey1 _
  subst ex1 ey1
  have e1 : v.1 85 - 1 = c := by omega
  rw [e1]
  refine ⟨fun _ => ?_, fun z => absurd h80 z⟩
  intro _ _ y1 ey1 _ _ _ y2 ey2 _
  rw [f1] at ey1
  rw [ey1] at ey2
  subst ey2
  refine p_functionOf (fun rr hrr => ?_)
  have hfn := FnOf_dfn hT hU hDv v57 l0 (by omega) hrr
  rw [ef] at hfn
  intro _ _ _ t et
  have g1 : EvF c (v.1 87) v t := by subst et; exact EvF_A hT hU (by decide) (by decide) (fun _ => Int.le_refl _) (fun n => by cases n)
  have t1 : t.1 = v.1 := by rw [et]; rfl
  have t86 : t.2.1 86 = v.2.1 86 := by rw [et]; rfl
  have tF : EvR t c k b D B 1 := by rw [et]; exact ⟨f1, f2, f3, f4, if_pos rfl⟩
  clear et
  have hTt := g1.1.1
  have hUt := g1.1.2.1
  have t8 : t.1 8 = v.1 8 := by rw [t1]
  have evl : vl t b n = vl v b n := by
    unfold vl
    refine List.map_congr_left (fun i hi => ?_)
    have hi := List.mem_range.mp hi
    obtain ⟨p, q⟩ := hvs (b + (i : Int)) (by omega) (by omega)
    rw [t86, g1.1.ob hT p q]
  have gb : EvF c b v t := g1.mono (Int.le_refl _) (by omega)
  refine ⟨fun hlt => ?_, fun hlt => ?_⟩
  · have hbase : 4 ≤ rr ∧ rr ≤ 16 ∧ rr = v.2.1 0 k ∧ E.dfn f = none := by
      rcases hfn with ⟨_, h2, h3⟩ | ⟨h1, h2, h3, h4⟩ | ⟨dd, d0, d1, d2, _⟩
      · have := (arOf_ne (E := E) (f := f) (by omega) h3).1
        rw [h2] at this
        cases this
      · refine ⟨?_, h2, h3, h4⟩
        by_cases e : rr = 3
        · exfalso
          refine hif ?_
          rw [← ef, ← h3, e]
          exact (kn hT hU 3 (by decide) (by decide) rfl).2.2
        · omega
      · omega
    obtain ⟨r4, r16, rk, hnone⟩ := hbase
    have hn := base_ar hT hU E (f := rr) (by omega) r16
    rw [rk, ef, har, ← rk] at hn
    intro _ _ y3 ey3 _
    have e3 : y3 = b := ey3.trans tF.2.1
    rw [e3]
    have n1 : 1 ≤ n := by
      by_cases e3 : rr = 3
      · omega
      · rw [if_neg e3] at hn
        split at hn <;> omega
    have n2 : rr ≤ 9 → 2 ≤ n := by intro h; rw [if_neg (by omega), if_pos h] at hn; omega
    have va := hvs b (by omega) (by omega)
    have efr : ob t rr = f := by rw [rk, g1.1.ob hT l0 (by omega)]; exact ef
    refine p_basic hTt hUt r4 r16 (by rw [t86]; exact va.1) (by rw [t86, t8]; exact va.2) (fun h => by have := hvs (b + 1) (by omega) (by have := n2 h; omega); rw [t86, t8]; exact this) (fun kk w hB => ?_)
    have hB2 := hB ((vl v b n).getD 1 Ob.nil) (fun h => by
      rw [List.getD_eq_getElem?_getD, vl_get v b n (n2 h)]
      show ob v (v.2.1 86 (b + ((1 : Nat) : Int))) = _
      obtain ⟨p, q⟩ := hvs (b + 1) (by omega) (by have := n2 h; omega)
      rw [t86, g1.1.ob hT p q]
      rfl)
    have ea : ob t (t.2.1 86 b) = (vl v b n).getD 0 Ob.nil := by
      rw [List.getD_eq_getElem?_getD, vl_get v b n n1, t86, g1.1.ob hT va.1 va.2]
      show _ = ob v (v.2.1 86 (b + ((0 : Nat) : Int)))
      rw [show b + ((0 : Nat) : Int) = b by omega]
    rw [efr, ea] at hB2
    obtain ⟨hR, hres⟩ := hB2
    have gR : EvF (c + 1) (v.1 87 + 1) t w := ⟨hR.gz.mono (fun k hk => by
      unfold f7E at hk
      unfold fT
      rw [Bool.or_eq_false_iff, Bool.or_eq_false_iff] at hk
      exact hk.1.1), fun j i j0 j1 _ => congrFun (hR.2.2.2.2 j (by unfold fT; exact decide_eq_false (by omega))).2 i, fun i _ => congrFun (hR.2.2.2.2 86 (by decide)).2 i⟩
    have w1 : ∀ j, 11 < j → w.1 j = v.1 j := fun j hj => ((hR.2.2.2.2 j (by unfold fT; exact decide_eq_false (by omega))).1).trans (by rw [t1])
    have wF := tF.keep gR (by omega : c < c + 1)
    intro p ep _ q eq x2 ex2 _
    have gp : EvF (c + 1) (v.1 87 + 1) w p := by subst ep; exact EvF_I hR.1 hR.2.1 (by decide) (by decide) _ _
    have gq : EvF (c + 1) (v.1 87 + 1) p q := by subst eq; exact EvF_I gp.1.1 gp.1.2.1 (by decide) (by decide) _ _
    have q91 : q.1 91 = kk := by rw [eq, ep]; rfl
    have q90 : q.1 90 = 1 := by rw [eq]; rfl
    have qn : ∀ j, j ≠ 90 → j ≠ 91 → q.1 j = w.1 j := by
      intro j j1 j2
      rw [eq, ep]
      show (if j = 90 then (1 : Int) else if j = 91 then kk else w.1 j) = _
      rw [if_neg j1, if_neg j2]
    clear eq ep
    rw [q91] at ex2
    rw [ex2]
    have gvq : EvF c b v q := ((gb.tr gR (by omega) (by omega)).tr gp (by omega) (by omega)).tr gq (by omega) (by omega)
    have qL : ∀ m, EvL lim q (s.1, s.2.1, m) := by
      intro m
      unfold EvL
      rw [qn 60 (by decide) (by decide), qn 59 (by decide) (by decide), qn 88 (by decide) (by decide), w1 60 (by decide), w1 59 (by decide), w1 88 (by decide)]
      exact hL
    have ecall : Sp.evCall E d f (vl v b n) s = match Ob.base f ((vl v b n).getD 0 Ob.nil) ((vl v b n).getD 1 Ob.nil) with | some v => .ok v (s.1, s.2.1, s.2.2 + 1) | none => .error 3 s := by
      unfold Sp.evCall
      rw [hnone]
      cases Ob.base f ((vl v b n).getD 0 Ob.nil) ((vl v b n).getD 1 Ob.nil) <;> rfl
    refine ⟨fun hne => ?_, fun he => ?_⟩
    · rcases hres with ⟨_, h2⟩ | ⟨h1, h2, h3⟩
      · exact absurd h2 hne
      · refine ev_pop (v := v) gq.1.1 gq.1.2.1 (c := c) (k := k) (b := b) (D := D) (B := B) (by rw [qn 85 (by decide) (by decide), w1 85 (by decide)]; exact h85) h0 ((wF.keep gp (by omega)).keep gq (by omega)) (by rw [qn 89 (by decide) (by decide), w1 89 (by decide)]; exact h89) q90 (fun z gz z85 z87 z89 z90 z91 z60 z88 => ?_)
        have hlq := gq.1.le
        have hlp := gp.1.le
        have q0' : kk < q.1 8 := by omega
        have eo : ob z kk = ob w kk := ((gz.1.ob gq.1.1 h1 q0').trans (gq.1.ob gp.1.1 h1 (by omega))).trans (gp.1.ob hR.1 h1 h2)
        refine hq kk (s.1, s.2.1, s.2.2 + 1) z (by rw [ecall, h3, eo]) (gvq.tr gz (Int.le_refl _) (by rw [qn 87 (by decide) (by decide), w1 87 (by decide)]; omega)) z85 z87 ?_ z89 z90 (z91.trans q91) h1 (by have := gz.1.le; omega)
        have := qL (s.2.2 + 1)
        unfold EvL at this ⊢
        rw [z60, z88, (gz.1.2.2.2.2 59 (by decide)).1]
        exact this
    · have hk : kk = -1 := Decidable.not_not.mp he
      intro z ez
      rcases hres with ⟨h1, _⟩ | ⟨h1, h2, h3⟩
      · have gz : EvF c b q z := by subst ez; exact EvF_I gq.1.1 gq.1.2.1 (by decide) (by decide) _ _
        refine hf 3 s z (by rw [ecall, h1]) (hG.tr (gvq.1.tr gz.1)) (by decide) (by rw [ez]; rfl) ?_
        have a1 : z.1 60 = q.1 60 := by rw [ez]; rfl
        have a2 : z.1 59 = q.1 59 := by rw [ez]; rfl
        rw [a1, a2]
        exact (qL 0).1
      · omega
  · rcases hfn with ⟨h1, _⟩ | ⟨h1, h2, _⟩ | ⟨dd, d0, d1, d2, d3, d4, d5⟩
    · omega
    · omega
    · have er : rr - 100 = dd := by omega
      rw [er]
      obtain ⟨⟨_, _, _⟩, ⟨m1, m2, m3⟩, ⟨c1, c2, c3⟩, _⟩ := hDv.2.2 dd d0 d1
      intro _ _ _ y3 ey3 _ _ _ _ y4 ey4 _
      have s39 : t.2.1 39 = v.2.1 39 := (g1.1.2.2.2.2 39 (by decide)).2
      have s38 : t.2.1 38 = v.2.1 38 := (g1.1.2.2.2.2 38 (by decide)).2
      rw [s39] at ey3
      have e4 : y4 = b := ey4.trans tF.2.1
      subst ey3
      rw [e4]
      obtain ⟨w1, w2⟩ := hW _ (dfn_mem d4).1
      have hlen : (prm v dd).length = n := by
        have a := (arOf_ne (E := E) (f := f) (by omega) d5).2 _ d4
        rw [har] at a
        have : ((dfn1 v dd).params.length : Int) = (prm v dd).length := rfl
        omega
      have hm : (v.2.1 37 dd).toNat = n := by
        have : (prm v dd).length = (v.2.1 37 dd).toNat := by unfold prm; simp
        omega
      have ecall : Sp.evCall E d f (vl v b n) s = Sp.ev E d (fun x => (Ob.lk ((prm v dd).zip (vl v b n)) x).getD Ob.nil) (ob v (v.2.1 39 dd)) s := by
        unfold Sp.evCall
        rw [d4]
        rfl
      have pget : ∀ j : Nat, j < n → (prm v dd)[j]? = some (ob v (v.2.1 38 (6 * dd + (j : Int)))) := by
        intro j hj
        unfold prm
        rw [List.getElem?_map, List.getElem?_range (by omega)]
        rfl
      refine ih (fun x => (Ob.lk ((prm v dd).zip (vl v b n)) x).getD Ob.nil) (ob v (v.2.1 39 dd)) t s (v.2.1 39 dd) dd b (hG.tr g1.1) (by rw [t1]; omega) (by rw [t1]; omega) (by rw [t1]; omega) (by unfold EvL; rw [t1]; exact hL) (by rw [t1]; exact h89) c1 (by omega) (g1.1.ob hT c1 c2) (c3.mono g1.1 hT) w1 (fun x hx hv => ?_) (fun r s' p hev gp p85 p87 pL p89 p90 p91 pr0 pr1 => ?_) (fun e s' p hev => hf e s' p (by rw [ecall]; exact hev))
      · obtain ⟨kk, kk1, kk2, kk3⟩ := first_at _ x (w2 x hx hv)
        have kk1 : kk < n := by rw [← hlen]; exact kk1
        have kk2 : (prm v dd)[kk]? = some x := kk2
        rw [pget kk kk1] at kk2
        obtain ⟨p1, p2⟩ := m3 (kk : Int) (by omega) (by omega)
        obtain ⟨o1, o2⟩ := hvs (b + (kk : Int)) (by omega) (by omega)
        refine ⟨kk, ⟨by rw [s38]; exact p1, by rw [s38]; omega, by rw [s38, g1.1.ob hT p1 p2]; exact Option.some.inj kk2⟩, fun j hj => ?_, by rw [t86]; exact o1, by rw [t86]; omega, by rw [t1]; omega, ?_⟩
        · obtain ⟨p1, p2⟩ := m3 (j : Int) (by omega) (by omega)
          refine ⟨by rw [s38]; exact p1, by rw [s38]; omega, ?_⟩
          rw [s38, g1.1.ob hT p1 p2]
          intro e
          refine kk3 j hj ?_
          show (prm v dd)[j]? = _
          rw [pget j (by omega), e]
        · have := lk_zip (prm v dd) (vl v b n) x _ kk (by rw [pget kk kk1]; exact kk2) (vl_get v b n kk1) (fun j hj => kk3 j hj)
          show (Ob.lk ((prm v dd).zip (vl v b n)) x).getD Ob.nil = _
          rw [this, t86, g1.1.ob hT o1 o2]
          rfl
      · have pF := tF.keep gp (by rw [t1]; omega)
        refine ev_pop (v := v) gp.1.1 gp.1.2.1 (by rw [p85, t1]; exact h85) h0 pF p89 p90 (fun q gq q85 q87 q89 q90 q91 q60 q88 => ?_)
        have hqo : ob q r = ob p r := gq.1.ob gp.1.1 pr0 pr1
        refine hq r s' q (by rw [ecall, hev, hqo]) ((gb.tr gp (by rw [t1]; omega) (by rw [t1]; omega)).tr gq (Int.le_refl _) (by rw [p87, t1]; omega)) q85 q87 ?_ q89 q90 (q91.trans p91) pr0 (by have := gq.1.le; omega)
        unfold EvL
        rw [q60, q88, (gq.1.2.2.2.2 59 (by decide)).1]
        exact pL
