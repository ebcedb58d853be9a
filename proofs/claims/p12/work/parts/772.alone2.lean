-- deps: 771
/-! the class: conclusions without parts, all of them -/
theorem fills_mono [DecidableEq Ob] {f : Ob → Sp.M Ob} (hf : ∀ o, Mono (f o)) : ∀ (as l : List Ob), Mono (Sp.fills f as l)
  | [], _ => Mono.ret
  | a :: as, l => Mono.bd (hf a) (fun _ => fills_mono hf as _)
theorem indRow_mono [DecidableEq Ob] {D : Sp.Dfn} {vs : List Ob} {F : Ob} {p : List (Ob × Bool) × Ob} {l : List Ob} : Mono (Sp.indRow D vs F p l) := Mono.bd (rulers_mono _ _) (fun _ => Mono.bd (hyps_mono _ _) (fun _ => Mono.bounded))
theorem indParts_mono [DecidableEq Ob] {D : Sp.Dfn} {vs : List Ob} {F : Ob} : ∀ (ps : List (List (Ob × Bool) × Ob)) (cs : List (List Ob)), Mono (Sp.indParts D vs F ps cs)
  | [], _ => by
    unfold Sp.indParts
    exact Mono.ret
  | _ :: _, [] => by
    unfold Sp.indParts
    exact Mono.ret
  | p :: ps, c :: cs => Mono.bd indRow_mono (fun _ => Mono.ite (indParts_mono ps cs) Mono.fail)
theorem concl_mono [DecidableEq Ob] {E : Sp.Env} {o : Ob} {cs : List (List Ob)} : Mono (Sp.concl E o cs) := by
  unfold Sp.concl
  refine Mono.ite (Mono.bd Mono.not (fun _ => Mono.ret)) (Mono.ite (Mono.bd Mono.big (fun _ => Mono.ret)) (Mono.ite (Mono.bd Mono.pay (fun _ => Mono.bd Mono.big (fun _ => Mono.ret))) (Mono.ite (Mono.bd Mono.big (fun _ => Mono.bd Mono.big (fun _ => Mono.bd Mono.big (fun _ => Mono.ret)))) (Mono.ite (Mono.bd Mono.big (fun _ => Mono.bd Mono.big (fun _ => Mono.bd Mono.big (fun _ => Mono.ret)))) (Mono.ite (Mono.bd Mono.big (fun _ => Mono.bd Mono.big (fun _ => Mono.ret))) (Mono.ite (Mono.bd Mono.not (fun _ => Mono.bd Mono.big (fun _ => Mono.bd Mono.big (fun _ => Mono.ret)))) (Mono.ite (Mono.bd Mono.big (fun _ => Mono.bd Mono.big (fun _ => Mono.ret))) (Mono.ite ?_ (Mono.ite ?_ (Mono.ite Mono.ret (Mono.ite (Mono.ite Mono.ret Mono.fail) (Mono.ite (fills_mono (fun _ => Mono.big) _ _) (Mono.ite ?_ (Mono.ite ?_ ?_))))))))))))))
  · split
    · exact Mono.bd Mono.big (fun _ => Mono.ret)
    · exact Mono.fail
  · split
    · exact Mono.ret
    · exact Mono.fail
  · split
    · exact Mono.ite (Mono.bd Mono.big (fun _ => Mono.ret)) Mono.fail
    · exact Mono.fail
  · split
    · exact Mono.ite (Mono.bd (fills_mono (fun _ => Mono.big) _ _) (fun _ => Mono.ret)) Mono.fail
    · exact Mono.fail
  · split
    · exact Mono.bd (indParts_mono _ _) (fun _ => Mono.ret)
    · exact Mono.fail
/-- definitions as they are told -/
def WfE [DecidableEq Ob] (E : Sp.Env) : Prop := ∀ D, D ∈ E.defs → D.name.isName = true ∧ (∀ x, x ∈ D.params → x.isVar = true) ∧ Ob.wt (Sp.arOf E) D.body ∧ D.body.sz ≤ 120
theorem sz_vars [DecidableEq Ob] {l : List Ob} (h : ∀ x, x ∈ l → x.isVar = true) : Ob.szM true (Ob.ofList l) = (l.length : Int) := by
  induction l with
  | nil => rfl
  | cons a l ih =>
    have h1 := sz_leaf (isVar_leaf (h a List.mem_cons_self))
    have h2 := ih (fun x hx => h x (List.mem_cons_of_mem _ hx))
    show Ob.szM false a + Ob.szM true (Ob.ofList l) = ((l.length + 1 : Nat) : Int)
    have h1 : Ob.szM false a = 1 := h1
    omega
section
variable {α : Type} {δ : Nat} {B : Int} {n r : Nat → Bool} {u v : iST} {E : Sp.Env} {R : EStateM.Result Unit Sp.Wk α} {K : List Ob → Sp.M α} {m : Int} {Q : iST → Prop}
theorem pc_concludeAlone [DecidableEq Ob] {p f : Int} {cs : List (List Ob)} (hP : PdK_d B δ n r u v R (Sp.bd (Sp.concl E (oc v p) cs) K)) (hn : ∀ k, n k = false → f8Yn k = false) (hr : ∀ k, r k = false → f8Yr k = false) (fit : Fit (B + (2 * npr (oc v p) + 4)) R) (hKm : ∀ l, Mono (K l)) (hKd : ∀ l, Sp.bnd l = false → Die (K l)) (hR : RdE v E) (hWf : WfE E) (hTo : TOc v E) (hFm : ∀ j : Nat, (j : Int) < v.1 1 → NdC v E (v.2.1 6 (j : Int))) (hC : ClW v E m ∧ clC v m = []) (vp : VN v p) (hz : npr (oc v p) ≤ 100000) (hf : Sp.isForm E (oc v p) = true) (vf : VN v f) (ef : oc v f = Ob.lft (oc v p)) (f37 : f < 38)
    (hq : ∀ w, CcK E m v w → PdK_d (B + (2 * npr (oc v p) + 4)) 900 n r u w R (K (clC w m)) → Q w) : pv_3_concludeAlone m p Q v := by
  have hT := hR.1
  have h32 := hR.2.2.2.1
  have hP := hP.zero (δ' := 0) h32
  have np := npr_pos (oc v p)
  have c3 := csI_3 (oc v p)
  have i1 := npr_pos (Ob.item (oc v p) 1)
  have i2 := npr_pos (Ob.item (oc v p) 2)
  have i3 := npr_pos (Ob.item (oc v p) 3)
  have e3 : csI (oc v p) 3 = 0 + npr (Ob.item (oc v p) 1) + npr (Ob.item (oc v p) 2) + npr (Ob.item (oc v p) 3) := rfl
  have free := hP.free fit (Mono.bd concl_mono hKm) h32
  obtain ⟨l2, sT, sP, sY⟩ := isForm_says hf
  have kk : ∀ (c : Int) (s : Ob), 0 ≤ c → c < 44 → Ob.knownC[c.toNat]? = some s → (f = c ↔ Ob.lft (oc v p) = s) := fun c s h0 h4 hs => by
    have := katC hT c h0 h4 hs vf.1 vf.2
    rw [ef] at this
    exact this
  have fe := form_eq (E := E) kk
  have hfr : FrW E (oc v p) f = true := by
    rw [hf] at fe
    exact (Bool.and_eq_true_iff.mp fe.symm).1
  have f28 : 28 ≤ f := by
    unfold FrW at hfr
    exact (decide_eq_true_eq.mp (Bool.and_eq_true_iff.mp hfr).1).1
  generalize hB' : B + (2 * npr (oc v p) + 4) = B' at fit hq
  -- what is made beside
  have more : ∀ (w : iST) (G : Sp.M α), CG f8B f8W v w → w.1 32 = 0 → w.1 29 ≤ v.1 29 + (2 * npr (oc v p) + 4) → Sp.bd (Sp.concl E (oc v p) cs) K = G → PdK_d B' 0 n r u w R G := fun w G gw wa w29 eG => by
    have := hP.more (c := 2 * npr (oc v p) + 4) gw (fun k h => f8B_Y k (hn k h)) (fun k h => f8W_Y k (hr k h)) w29 (gw.2.2.1 30 (by decide)) (gw.2.2.1 31 (by decide)) (by rw [wa, h32])
    rw [hB', eG] at this
    exact this
  have keep : ∀ w : iST, CG f8B f8W v w → (w.1 32 = 0 → ClW w E m ∧ clC w m = []) := fun w gw _ => by
    obtain ⟨a, b⟩ := hC.1.up hT gw (f8B_rows gw)
    exact ⟨a, by rw [b]; exact hC.2⟩
  have done : ∀ w, CG f8B f8W v w → w.1 32 = 0 → ∀ {δ' : Nat}, δ' ≤ 900 → ∀ w2, CcK E m w w2 → PdK_d B' δ' n r u w2 R (K (clC w2 m)) → Q w2 := fun w gw wa {δ'} hδ w2 c2 P2 => hq w2 (CcK.pre gw f8B_Y f8W_Y (f8B_rows gw) (fun z => absurd h32 z) c2) (P2.w hδ)
  unfold pv_3_concludeAlone
  refine pc_left hT vp (fun f' vf' ef' => ?_)
  have eff : f' = f := (hT.1.inj vf'.1 vf'.2 vf.1 vf.2).mp (ef'.trans ef.symm)
  rw [eff]
  refine pc_termAt (k := 1) hR vp hz (by omega) (fun x4 v1 g1 hR1 h29 hor1 => ?_)
  have v1a := hR1.2.2.2.1
  have eo1 : oc v1 p = oc v p := g1.oc hT vp.1 vp.2
  have vp1 := vp.up g1
  -- the first term, where it is wanted
  have one : (Sp.rdAt E (oc v p) 1).isSome = true → NdC v1 E x4 ∧ (Sp.rdAt E (oc v p) 1).getD Ob.nil = oc v1 x4 := fun h => by
    rcases hor1 with ⟨_, q⟩ | ⟨q1, q2⟩
    · rw [q] at h; cases h
    · exact ⟨q1, by rw [q2]; rfl⟩
  -- behind the second one
  have go : ∀ (y0 : Int) (w : iST), CG f8B f8W v1 w → RdE w E → w.1 29 ≤ v.1 29 + npr (Ob.item (oc v p) 1) + npr (Ob.item (oc v p) 2) → (31 ≤ f ∧ f ≤ 35 → NdC w E y0 ∧ (Sp.rdAt E (oc v p) 2).getD Ob.nil = oc w y0) → pv_3_concludeAlone_39 Q m p f x4 y0 w := by
    intro y0 w g2 hRw w29 hy
    have gw := g1.tr g2
    have wa := hRw.2.2.2.1
    have hTw := hRw.1
    have one2 : (Sp.rdAt E (oc v p) 1).isSome = true → NdC w E x4 ∧ (Sp.rdAt E (oc v p) 1).getD Ob.nil = oc w x4 := fun h => by
      obtain ⟨a, b⟩ := one h
      obtain ⟨c, d⟩ := a.up hR1.1 g2
      exact ⟨c, by rw [b, d]⟩
    have eow : oc w p = oc v p := gw.oc hT vp.1 vp.2
    have vpw := vp.up gw
    unfold pv_3_concludeAlone_39
    refine ⟨fun q => ?_, fun n28 => ?_⟩
    · have h := (kk 28 Ob.taut (by decide) (by decide) rfl).mp q
      obtain ⟨nx, ex⟩ := one2 (sT (Or.inl h))
      have P := more w _ gw wa (by omega) (by rw [concl_taut h, bd_assoc])
      rw [ex] at P
      exact ca_taut P hn hr fit hKm hKd (keep w gw) nx (done w gw wa (by omega))
    refine ⟨fun q => ?_, fun n29 => ?_⟩
    · have h := (kk 29 Ob.same (by decide) (by decide) rfl).mp q
      obtain ⟨nx, ex⟩ := one2 (sT (Or.inr (Or.inl h)))
      have P := more w _ gw wa (by omega) (by rw [concl_same h, bd_assoc])
      rw [ex] at P
      exact ca_same P hn hr fit hKm hKd (keep w gw) nx.d nx.d (done w gw wa (by omega))
    refine ⟨fun q => ?_, fun n30 => ?_⟩
    · have h := (kk 30 Ob.value (by decide) (by decide) rfl).mp q
      have h1 := sT (Or.inr (Or.inr (Or.inl h)))
      obtain ⟨nx, ex⟩ := one2 h1
      obtain ⟨L, eL⟩ := Option.isSome_iff_exists.mp h1
      have hV : (Sp.toldV L).isSome = true := by
        rw [isForm_value h, eL] at hf
        exact (Bool.and_eq_true_iff.mp hf).2
      obtain ⟨V, eV⟩ := Option.isSome_iff_exists.mp hV
      refine pc_valueAt hRw (fun D hD => (hWf D hD).1) vpw (by rw [eow]; exact hz) (by rw [eow]; omega) (fun t w2 gw2 hRw2 w29' hor => ?_)
      rw [eow] at w29' hor
      obtain ⟨vt, et⟩ : VN w2 t ∧ oc w2 t = V := by
        rcases hor with ⟨_, q2⟩ | ⟨q1, q2⟩
        · rw [eL] at q2
          have q2 : Sp.toldV L = none := q2
          rw [eV] at q2; cases q2
        · rw [eL] at q2
          have q2 : Sp.toldV L = some (oc w2 t) := q2
          rw [eV] at q2
          exact ⟨q1, (Option.some.inj q2).symm⟩
      refine pc_constantOf hRw2.1 vt (by omega) (fun t3 w3 gw3 vt3 et3 h3 => ?_)
      have gB3 : CG f8B f8W w2 w3 := gw3.mono f8M_B f8R_W
      have g23 := gw2.tr gB3
      have g03 := gw.tr g23
      have w3a : w3.1 32 = 0 := by rw [gw3.2.2.1 32 (by decide)]; exact hRw2.2.2.2.1
      obtain ⟨nx3, ex3⟩ := nx.up hTw g23
      have P := more w3 _ g03 w3a (by omega) (by rw [concl_value h, bd_assoc])
      have exL : oc w x4 = L := by rw [← ex, eL]; rfl
      rw [ex, exL] at P
      have P : PdK_d B' 0 n r u w3 R (Sp.bd (Sp.mk2 Ob.equal (oc w3 x4) (oc w3 t3)) (fun x => K [x])) := by
        have e2 : oc w3 t3 = Ob.constOf ((Sp.toldV L).getD Ob.nil) := by rw [et3, et, eV]; rfl
        rw [e2, ex3, exL]
        refine ⟨P.1, ?_⟩
        rcases P.2 with ⟨s, hl, e⟩ | q
        · refine Or.inl ⟨(s.1, s.2 + 3), ⟨hl.1, hl.2.1, ?_⟩, ?_⟩
          · have := hl.2.2
            show w3.1 29 ≤ B' + ((s.2 + 3 : Nat) : Int)
            omega
          · rw [e]
            show Sp.bd (Sp.bd (Sp.mk2 Ob.equal L (Ob.constOf ((Sp.toldV L).getD Ob.nil))) (fun x => Sp.ret [x])) K (s.1, s.2 + 3) = _
            rw [bd_assoc]
            rfl
        · exact Or.inr q
      exact ca_same P hn hr fit hKm hKd (keep w3 g03) nx3.d (NdC.cst vt3 et3).d (done w3 g03 w3a (by omega))
    refine ⟨fun q => ?_, fun n31 => ?_⟩
    · have h := (kk 31 Ob.first (by decide) (by decide) rfl).mp q
      obtain ⟨nx, ex⟩ := one2 (sP (Or.inl h)).2.1
      obtain ⟨ny, ey⟩ := hy ⟨by omega, by omega⟩
      have P := more w _ gw wa (by omega) (by rw [concl_first h])
      rw [ex, ey] at P
      simp only [bd_assoc] at P
      rw [q]
      exact ca_pair (f := 31) ⟨by decide, by decide⟩ P hn hr fit hKm hKd (keep w gw) nx ny (done w gw wa (by omega))
    refine ⟨fun q => ?_, fun n32 => ?_⟩
    · have h := (kk 32 Ob.second (by decide) (by decide) rfl).mp q
      obtain ⟨nx, ex⟩ := one2 (sP (Or.inr (Or.inl h))).2.1
      obtain ⟨ny, ey⟩ := hy ⟨by omega, by omega⟩
      have P := more w _ gw wa (by omega) (by rw [concl_second h])
      rw [ex, ey] at P
      simp only [bd_assoc] at P
      rw [q]
      exact ca_pair (f := 32) ⟨by decide, by decide⟩ P hn hr fit hKm hKd (keep w gw) nx ny (done w gw wa (by omega))
    refine ⟨fun q => ?_, fun n33 => ?_⟩
    · have h := (kk 33 Ob.pair (by decide) (by decide) rfl).mp q
      obtain ⟨nx, ex⟩ := one2 (sP (Or.inr (Or.inr h))).2.1
      obtain ⟨ny, ey⟩ := hy ⟨by omega, by omega⟩
      have P := more w _ gw wa (by omega) (by rw [concl_pair h])
      rw [ex, ey] at P
      simp only [bd_assoc] at P
      rw [q]
      exact ca_pair (f := 33) ⟨by decide, by decide⟩ P hn hr fit hKm hKd (keep w gw) nx ny (done w gw wa (by omega))
    refine ⟨fun q => ?_, fun n34 => ?_⟩
    · have h := (kk 34 Ob.yes (by decide) (by decide) rfl).mp q
      obtain ⟨_, s1, s2, s3⟩ := sY (Or.inl h)
      obtain ⟨nx, ex⟩ := one2 s1
      obtain ⟨ny, ey⟩ := hy ⟨by omega, by omega⟩
      refine pc_termAt (k := 3) hRw vpw (by rw [eow]; exact hz) (by rw [eow]; omega) (fun x8 w2 gw2 hRw2 w29' hor3 => ?_)
      rw [eow] at w29' hor3
      obtain ⟨nz, ez⟩ : NdC w2 E x8 ∧ (Sp.rdAt E (oc v p) 3).getD Ob.nil = oc w2 x8 := by
        rcases hor3 with ⟨_, q2⟩ | ⟨q1, q2⟩
        · rw [q2] at s3; cases s3
        · exact ⟨q1, by rw [q2]; rfl⟩
      have w2a := hRw2.2.2.2.1
      have g02 := gw.tr gw2
      obtain ⟨nx2, ex2⟩ := nx.up hTw gw2
      obtain ⟨ny2, ey2⟩ := ny.up hTw gw2
      have P := more w2 _ g02 w2a (by omega) (by rw [concl_yes h])
      rw [ex, ey, ez, ← ex2, ← ey2] at P
      simp only [bd_assoc] at P
      refine ⟨fun q2 => absurd q q2, fun _ => ?_⟩
      refine pc_negN P (fun k h => f8B_Y k (hn k h)) (fun k h => f8W_Y k (hr k h)) fit (fun _ => Mono.bd Mono.big (fun _ => Mono.bd Mono.big (fun _ => hKm _))) nx2.d (fun t w3 gw3 d3 nt P3 _ => ?_)
      have hC3 := CcK.same (E := E) (m := m) hRw2.1 (keep w2 g02) gw3 (f8B_rows gw3) d3
      obtain ⟨nx3, ex3⟩ := nx2.up hRw2.1 gw3
      obtain ⟨ny3, ey3⟩ := ny2.up hRw2.1 gw3
      obtain ⟨nz3, ez3⟩ := nz.up hRw2.1 gw3
      rw [← ex3, ← ey3, ← ez3] at P3
      rw [q]
      exact ca_if (f := 34) (x := t) (Or.inl rfl) P3 hn hr fit hKm hKd hC3 nx3 ny3 nz3 nt (fun w4 c4 P4 => done w2 g02 w2a (by omega) w4 (CcK.pre gw3 f8B_Y f8W_Y (f8B_rows gw3) d3 c4) P4)
    refine ⟨fun q => ?_, fun n35 => ?_⟩
    · have h := (kk 35 Ob.no (by decide) (by decide) rfl).mp q
      obtain ⟨_, s1, s2, s3⟩ := sY (Or.inr h)
      obtain ⟨nx, ex⟩ := one2 s1
      obtain ⟨ny, ey⟩ := hy ⟨by omega, by omega⟩
      refine pc_termAt (k := 3) hRw vpw (by rw [eow]; exact hz) (by rw [eow]; omega) (fun x8 w2 gw2 hRw2 w29' hor3 => ?_)
      rw [eow] at w29' hor3
      obtain ⟨nz, ez⟩ : NdC w2 E x8 ∧ (Sp.rdAt E (oc v p) 3).getD Ob.nil = oc w2 x8 := by
        rcases hor3 with ⟨_, q2⟩ | ⟨q1, q2⟩
        · rw [q2] at s3; cases s3
        · exact ⟨q1, by rw [q2]; rfl⟩
      have w2a := hRw2.2.2.2.1
      have g02 := gw.tr gw2
      obtain ⟨nx2, ex2⟩ := nx.up hTw gw2
      obtain ⟨ny2, ey2⟩ := ny.up hTw gw2
      have P := more w2 _ g02 w2a (by omega) (by rw [concl_no h])
      rw [ex, ey, ez, ← ex2, ← ey2] at P
      simp only [bd_assoc] at P
      refine ⟨fun _ => ?_, fun q2 => absurd (show f ≠ 34 by omega) q2⟩
      rw [q]
      exact ca_if (f := 35) (x := x4) (Or.inr rfl) P hn hr fit hKm hKd (keep w2 g02) nx2 ny2 nz nx2.d (done w2 g02 w2a (by omega))
    have hDw := hTo.mono hT gw (gw.2.2.1 1 (by decide)) (fun k h1 h2 => gw.2.2.2 k (by unfold f8W; simp only [Bool.or_eq_false_iff, decide_eq_false_iff_not]; omega)) (gw.2.2.2 50 (by decide))
    refine ⟨fun q => ?_, fun n36 => ?_⟩
    · have h := (kk 36 Ob.defS (by decide) (by decide) rfl).mp q
      have hsm : (E.dfn (Ob.item (oc v p) 1)).isSome = true := by
        rw [isForm_defS h] at hf
        exact (Bool.and_eq_true_iff.mp hf).2
      refine pc_item hTw vpw (by decide) (fun t vt et => ?_)
      have et : oc w t = Ob.item (oc w p) 1 := et
      rw [eow] at et
      refine pc_functionOf hTw hRw.2.1 vt (fun hno => ?_) (fun d d0 d1 ed hd => ?_)
      · rw [et] at hno; rw [hno] at hsm; cases hsm
      rw [et] at hd
      obtain ⟨hDm, hDnm⟩ := dfn_mem hd
      obtain ⟨w1, w2', w3', w4'⟩ := hWf _ hDm
      obtain ⟨p1, p2, ⟨p3, p4, p5, p6⟩, p7, p8⟩ := hRw.2.1.2.2 d d0 d1
      unfold pv_3_definedCall
      refine ⟨fun _ => ?_, fun q2 => absurd (show d ≠ -1 by omega) q2⟩
      intro _ _ y1 ey1 _ _ _ y2 ey2 _
      rw [ey1, ey2]
      refine pc_pair hTw p1 p3 (by omega) (fun t2 w2 gw2 vt2 et2 h2 => ⟨fun _ => ?_, fun q2 => absurd (show d ≠ -1 by omega) q2⟩)
      intro _ _ y3 ey3 _
      have gB2 : CG f8B f8W w w2 := gw2.mono f8M_B f8R_W
      rw [gw2.2.2.2 3 (by decide)] at ey3
      have g02 := gw.tr gB2
      have w2a : w2.1 32 = 0 := by rw [gw2.2.2.1 32 (by decide)]; exact wa
      have epar : oc w (w.2.1 1 d) = Ob.ofList (dfnC w d).params := (Ob.ofList_toList _ (by omega)).symm
      have lpar : ((dfnC w d).params.length : Int) = w.2.1 2 d := by
        have := Ob.len_toList (o := oc w (w.2.1 1 d)) (by omega)
        show ((Ob.toList (oc w (w.2.1 1 d))).length : Int) = _
        omega
      have et2' : oc w2 t2 = .pr (dfnC w d).name (Ob.ofList (dfnC w d).params) := by rw [et2, epar]; rfl
      obtain ⟨nb1, nb2, nb3, _⟩ := isName_base w1
      have nt2 : NdC w2 E t2 := by
        refine ⟨vt2, ?_, ?_⟩
        · rw [et2']
          refine Ob.wt_mk nb3 nb2 ?_ (fun x hx => (var_w (w2' x hx)).1)
          exact arOf_def nb1 (by rw [hDnm]; exact hd)
        · rw [et2']
          have : Ob.sz (.pr (dfnC w d).name (Ob.ofList (dfnC w d).params)) = 1 + Ob.szM true (Ob.ofList (dfnC w d).params) := if_neg nb3
          rw [this, sz_vars w2']
          omega
      have nb : NdC w2 E y3 := by
        rw [ey3]
        exact (NdC.up (E := E) (k := w.2.1 3 d) ⟨p7, w3', w4'⟩ hTw gB2).1
      have eb : oc w2 y3 = (dfnC w d).body := by rw [ey3]; exact gB2.oc hTw p7.1 p7.2
      have P := more w2 _ g02 w2a (by omega) (by rw [concl_defS h, hd])
      have P : PdK_d B' 0 n r u w2 R (Sp.bd (Sp.bd (Sp.mk2 Ob.equal (.pr (dfnC w d).name (Ob.ofList (dfnC w d).params)) (dfnC w d).body) (fun x => Sp.ret [x])) K) := P
      rw [bd_assoc, ← et2', ← eb] at P
      unfold pv_3_concludeAlone_206
      exact ca_same (Q := Q) P hn hr fit hKm hKd (keep w2 g02) nt2.d nb.d (done w2 g02 w2a (by omega))
    refine ⟨fun q => ?_, fun n37 => by omega⟩
    have h := (kk 37 Ob.thm (by decide) (by decide) rfl).mp q
    have hsm : (E.thmOf (Ob.item (oc v p) 1)).isSome = true := by
      rw [isForm_thm h] at hf
      exact (Bool.and_eq_true_iff.mp hf).2
    refine pc_item hTw vpw (by decide) (fun t vt et => ?_)
    have et : oc w t = Ob.item (oc w p) 1 := et
    rw [eow] at et
    refine pc_theoremOf hTw hDw vt (fun hno => ?_) (fun j k hj hk _ hth => ⟨fun _ => ?_, fun q2 => absurd (show (j : Int) ≠ -1 by omega) q2⟩)
    · rw [et] at hno; rw [hno] at hsm; cases hsm
    rw [et] at hth
    obtain ⟨_, ⟨k', ek', hk1⟩, _⟩ := hDw.2 j hj
    have ekk : k' = k := by rw [hk] at ek'; exact (Option.some.inj ek').symm
    rw [ekk] at hk1
    have hj' : (j : Int) < v.1 1 := by rw [← gw.2.2.1 1 (by decide)]; exact hj
    intro _ _ y3 ey3 _
    have r6 : w.2.1 6 = v.2.1 6 := gw.2.2.2 6 (by decide)
    have nf : NdC w E y3 := by
      rw [ey3, r6]
      exact ((hFm j hj').up hT gw).1
    have eF : oc w y3 = k.form := by rw [hk1.2.1, ey3]
    have P := more w _ gw wa (by omega) (by rw [concl_thm h, hth])
    have P : PdK_d B' 0 n r u w R (K [k.form]) := P
    rw [← eF] at P
    unfold pv_3_concludeAlone_255
    exact ca_one (Q := Q) P hn hr hKd (keep w gw) nf.d (done w gw wa (by omega))
  have short : ¬ (31 ≤ f ∧ f ≤ 35) → pv_3_concludeAlone_38 Q m p f x4 v1 := fun h => by
    unfold pv_3_concludeAlone_38
    exact go (-1) v1 (CG.rf hR1.1) hR1 (by omega) (fun q => absurd q h)
  refine ⟨fun q => short (by omega), fun q => ⟨fun q2 => short (by omega), fun q2 => ?_⟩⟩
  refine pc_termAt (k := 2) hR1 vp1 (by rw [eo1]; exact hz) (by rw [eo1]; omega) (fun y0 w g2 hRw w29 hor2 => ?_)
  rw [eo1] at w29 hor2
  refine go y0 w g2 hRw (by omega) (fun _ => ?_)
  have s2 : (Sp.rdAt E (oc v p) 2).isSome = true := by
    have hc : f = 31 ∨ f = 32 ∨ f = 33 ∨ f = 34 ∨ f = 35 := by omega
    rcases hc with c | c | c | c | c
    · exact (sP (Or.inl ((kk 31 Ob.first (by decide) (by decide) rfl).mp c))).2.2
    · exact (sP (Or.inr (Or.inl ((kk 32 Ob.second (by decide) (by decide) rfl).mp c)))).2.2
    · exact (sP (Or.inr (Or.inr ((kk 33 Ob.pair (by decide) (by decide) rfl).mp c)))).2.2
    · exact (sY (Or.inl ((kk 34 Ob.yes (by decide) (by decide) rfl).mp c))).2.2.1
    · exact (sY (Or.inr ((kk 35 Ob.no (by decide) (by decide) rfl).mp c))).2.2.1
  rcases hor2 with ⟨_, q3⟩ | ⟨q3, q4⟩
  · rw [q3] at s2; cases s2
  · exact ⟨q3, by rw [q4]; rfl⟩
end
