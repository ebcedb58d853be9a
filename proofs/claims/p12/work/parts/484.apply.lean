-- deps: 483
/-- a call whose terms are rewritten -/
def AJ [DecidableEq Ob] (u0 : iST) (E : Sp.Env) (v0 v : iST) (tr : Int) (s : Sp.Wk) (k : Int) : Prop := InJ u0 E v0 v tr s ∧ v.1 61 = 0 ∧ v.1 104 = v0.1 104 ∧ v.1 109 = v0.1 109 ∧ v.2.1 92 (v0.1 102) = k ∧ Nd v E k ∧ (ob v k).isCall = true
theorem rest_none [DecidableEq Ob] {E : Sp.Env} {r : Ob → Bool → Sp.M Ob} {ctx : List Ob} {u : Ob} {tr : Bool} (h : Sp.plain u = none) : Sp.rwRest E r ctx u tr = if Sp.look ctx u tr = u then Sp.rwRules E r u tr E.thms.reverse else Sp.ret (Sp.look ctx u tr) := by unfold Sp.rwRest; rw [h]
theorem rest_inl [DecidableEq Ob] {E : Sp.Env} {r : Ob → Bool → Sp.M Ob} {ctx : List Ob} {u o : Ob} {tr : Bool} (h : Sp.plain u = some (.inl o)) : Sp.rwRest E r ctx u tr = Sp.ret o := by unfold Sp.rwRest; rw [h]
theorem rest_inr [DecidableEq Ob] {E : Sp.Env} {r : Ob → Bool → Sp.M Ob} {ctx : List Ob} {u : Ob} {m : Sp.M Ob} {tr : Bool} (h : Sp.plain u = some (.inr m)) : Sp.rwRest E r ctx u tr = Sp.bd m (fun x => r x tr) := by unfold Sp.rwRest; rw [h]
theorem rw_244 [DecidableEq Ob] {u0 : iST} {E : Sp.Env} {Q : Int → iST → Prop} {d : Nat} (hT0 : TI u0) (hE : EnvS u0 E) (ih : RwG u0 E Q d) {v0 v : iST} {R : EStateM.Result Unit Sp.Wk Ob} {tr : Int} {s : Sp.Wk} {k : Int} (hO : Owe u0 E Q v0 R) (hd : v0.1 102 + 1 + (d : Int) = 60) (hA : AJ u0 E v0 v tr s k) (hp : Sp.plain (ob v k) = none)
    (hR : R = Sp.bd (Sp.rwRest E (Sp.rw E d (cxL v0)) (cxL v0) (ob v k) (decide (tr ≠ 0))) (fun y => Sp.ret (Sp.fin (decide (tr ≠ 0)) y)) s) : pw_apply_244 (fun w => pw_rewritten_21 Q w) (v0.1 102) k (-1) v := by
  obtain ⟨hI, h61, h104, h109, h92, nk, hc⟩ := hA
  have hT := hI.2.1.1.1
  have hU := hI.2.1.1.2.1
  have hEv := hI.env hT0 hE
  obtain ⟨cx, cxe⟩ := hI.cx hT0 h109
  rw [rest_none hp] at hR
  unfold pw_apply_244
  refine ⟨fun _ => ?_, fun z => absurd rfl z⟩
  intro _ _ x ex _
  rw [hI.2.2.2.2.2.1] at ex
  rw [ex]
  refine p_lookedUp hT hU cx nk (fun y ny ey => ?_)
  rw [cxe] at ey
  have hin := hT.inj hU ny.1 ny.2.1 nk.1 nk.2.1
  refine ⟨fun hy => ?_, fun hy => ?_⟩
  · rw [← ey, if_pos (hin.mpr hy)] at hR
    intro z ez _ _
    unfold pw_tryRules
    intro _ _ w ew _
    rw [h92] at ew
    rw [ew, ez]
    obtain ⟨th1, th2, _⟩ := hEv.2.2.2
    have e42 : v.1 42 = u0.1 42 := ((hI.1.tr hI.2.1.1).2.2.2.2 42 (by decide)).1
    have hlen : E.thms.take (v.1 42).toNat = E.thms := by
      refine List.take_of_length_le ?_
      rw [th1]
      unfold thmsL
      simp
    have := rw_try hT0 hE ih (v.1 42).toNat (by omega) v0 v R tr s k hO hI hd h104 h109 h92 nk hc (fun _ => by rw [hlen]; exact hR) (fun z => absurd h61 z)
    rw [Int.toNat_of_nonneg th2] at this
    exact this
  · rw [← ey, if_neg (fun z => hy (hin.mp z))] at hR
    exact rw_end hO hI h104 h109 ny (fun _ => by rw [hR]; rfl) (fun z => absurd h61 z)
theorem less_q [DecidableEq Ob] : Ob.less ≠ Ob.quote := Ob.sym_ne (by decide)
theorem rw_218 [DecidableEq Ob] {u0 : iST} {E : Sp.Env} {Q : Int → iST → Prop} {d : Nat} (hT0 : TI u0) (hE : EnvS u0 E) (ih : RwG u0 E Q d) {v0 v : iST} {R : EStateM.Result Unit Sp.Wk Ob} {tr : Int} {s : Sp.Wk} {k x3 : Int} (hO : Owe u0 E Q v0 R) (hd : v0.1 102 + 1 + (d : Int) = 60) (hA : AJ u0 E v0 v tr s k) (h9 : x3 = 9 → (ob v k).isCallOf Ob.less = true ∧ Sp.plain (ob v k) = (Sp.fal (Ob.item (ob v k) 1) (Ob.item (ob v k) 2)).map .inr) (hn : x3 ≠ 9 → Sp.plain (ob v k) = none)
    (hR : R = Sp.bd (Sp.rwRest E (Sp.rw E d (cxL v0)) (cxL v0) (ob v k) (decide (tr ≠ 0))) (fun y => Sp.ret (Sp.fin (decide (tr ≠ 0)) y)) s) : pw_apply_218 (fun w => pw_rewritten_21 Q w) (v0.1 102) k x3 v := by
  have hA' := hA
  obtain ⟨hI, h61, h104, h109, h92, nk, hc⟩ := hA
  have hT := hI.2.1.1.1
  have hU := hI.2.1.1.2.1
  have h71 : 0 ≤ v.1 71 := by rw [hI.2.1.2.1]; exact hI.2.2.2.2.2.2.2.2.2
  unfold pw_apply_218
  refine ⟨fun hz => rw_244 hT0 hE ih hO hd hA' (hn hz) hR, fun hz => ?_⟩
  obtain ⟨hl, hpl⟩ := h9 (Decidable.not_not.mp hz)
  refine p_it hT nk hl less_q (arOf_less E) (by decide) (by decide) (by decide) (fun a na ea => ?_)
  refine p_it hT nk hl less_q (arOf_less E) (by decide) (by decide) (by decide) (fun b nb eb => ?_)
  have ea : ob v a = Ob.item (ob v k) 1 := ea
  have eb : ob v b = Ob.item (ob v k) 2 := eb
  refine p_fallen hT hU h71 h61 na nb s (fun x w hG hx => ?_)
  rw [ea, eb] at hx
  rcases hx with ⟨hf, hx, w61⟩ | ⟨m, hf, nx, hm⟩
  · rw [hx]
    rw [hf] at hpl
    obtain ⟨nkw, ekw⟩ := nk.mono hT hG.1
    refine rw_244 hT0 hE ih hO hd ⟨hI.gm hG, w61, (hG.n 104 (by decide)).trans h104, (hG.n 109 (by decide)).trans h109, (congrFun (hG.1.2.2.2.2 92 (by decide)).2 _).trans h92, nkw, by rw [ekw]; exact hc⟩ (by rw [ekw]; exact hpl) (by rw [ekw]; exact hR)
  · rw [hf] at hpl
    unfold pw_apply_244
    refine ⟨fun z => by have := nx.1; omega, fun _ => ?_⟩
    refine rw_passMK hT0 ih hO hI hd h104 h109 hG nx hm ?_
    rw [hR, rest_inr hpl]
theorem wt_constOf [DecidableEq Ob] (ar : Ob → Int) (o : Ob) : Ob.wt ar (Ob.constOf o) := by
  by_cases h : o.isNat = true ∨ o = Ob.nil ∨ o = Ob.t
  · rw [constOf_leaf h]
    refine Ob.wt_leaf ?_
    rcases h with h | h | h
    · cases o with
      | var x => rfl
      | op a b => cases h
    · rw [h]; rfl
    · rw [h]; rfl
  · have h1 : o.isNat = false := Bool.not_eq_true _ ▸ fun z => h (Or.inl z)
    have e := constOf_quote h1 (fun z => h (Or.inr (Or.inl z))) (fun z => h (Or.inr (Or.inr z)))
    rw [e]
    exact ⟨fun _ => ⟨o, rfl, e⟩, fun z => absurd rfl z⟩
theorem rw_86 [DecidableEq Ob] {u0 : iST} {E : Sp.Env} {Q : Int → iST → Prop} {d : Nat} (hT0 : TI u0) (hE : EnvS u0 E) (ih : RwG u0 E Q d) {v0 v : iST} {R : EStateM.Result Unit Sp.Wk Ob} {tr : Int} {s : Sp.Wk} {k x3 : Int} (hO : Owe u0 E Q v0 R) (hd : v0.1 102 + 1 + (d : Int) = 60) (hA : AJ u0 E v0 v tr s k) (hx3 : (100 ≤ x3 ∧ (Ob.lft (ob v k)).isBase = false) ∨ (4 ≤ x3 ∧ x3 ≤ 16 ∧ x3 = v.2.1 0 k))
    (hR : R = Sp.bd (Sp.rwRest E (Sp.rw E d (cxL v0)) (cxL v0) (ob v k) (decide (tr ≠ 0))) (fun y => Sp.ret (Sp.fin (decide (tr ≠ 0)) y)) s) : pw_apply_86 (fun w => pw_rewritten_21 Q w) (v0.1 102) k x3 v := by
  have hA' := hA
  obtain ⟨hI, h61, h104, h109, h92, nk, hc⟩ := hA
  have hT := hI.2.1.1.1
  have hU := hI.2.1.1.2.1
  have h71 : 0 ≤ v.1 71 := by rw [hI.2.1.2.1]; exact hI.2.2.2.2.2.2.2.2.2
  unfold pw_apply_86
  refine ⟨fun hge => ?_, fun hlt => ?_⟩
  · have hb := (hx3.resolve_right (fun z => by omega)).2
    refine rw_218 hT0 hE ih hO hd hA' (fun z => by omega) (fun _ => plain_no ?_) hR
    have ne : ∀ f, Ob.isBase f = true → Ob.lft (ob v k) ≠ f := fun f hf e => by rw [e, hf] at hb; cases hb
    exact ⟨ne _ isBase_equal, ne _ isBase_less, ne _ isBase_car, ne _ isBase_cdr, ne _ isBase_consp, ne _ isBase_natp, ne _ isBase_symbolp⟩
  · obtain ⟨f4, f16, ef⟩ := hx3.resolve_left (fun z => by omega)
    have hp : (ob v k).isPr = true := by
      cases e : ob v k with
      | var x => rw [e] at hc; cases hc
      | op x y => rfl
    obtain ⟨l0, l1, _, _, eL, _, ep⟩ := ob_lft hT nk.1 nk.2.1 hp
    have nk1 := nk.2.1
    have known : ∀ (c : Int) (o : Ob), 0 ≤ c → c < 44 → Ob.known[c.toNat]? = some o → (x3 = c ↔ Ob.lft (ob v k) = o) := by
      intro c o h0 h4 ho
      rw [ef, eL]
      exact kat hT hU c h0 h4 ho l0 (by omega)
    refine p_plain hT hU nk hc (by omega) (by omega) (fun y hy => ⟨fun hz => ?_, fun hz => ?_⟩)
    · have hno : ∀ x, Sp.plain (ob v k) ≠ some (.inl x) := by
        rcases hy with ⟨_, h⟩ | ⟨h, _⟩
        · exact h
        · have := h.1; omega
      have h9 : x3 = 9 → (ob v k).isCallOf Ob.less = true ∧ Sp.plain (ob v k) = (Sp.fal (Ob.item (ob v k) 1) (Ob.item (ob v k) 2)).map .inr := by
        intro h
        have hL := (known 9 Ob.less (by decide) (by decide) rfl).mp h
        refine ⟨Ob.isCallOf_iff.mpr ⟨_, by rw [ep, ← eL, hL]⟩, ?_⟩
        have pl := plain_less hL
        by_cases c : Ob.item (ob v k) 1 = Ob.item (ob v k) 2 ∨ Ob.item (ob v k) 2 = Ob.nat 0
        · rw [if_pos c] at pl; exact absurd pl (hno _)
        · rw [if_neg c] at pl; exact pl
      have hn' : x3 ≠ 9 → x3 ≠ 4 → Sp.plain (ob v k) = none := by
        intro n9 n4
        cases e : Sp.plain (ob v k) with
        | none => rfl
        | some z =>
          cases z with
          | inl o => exact absurd e (hno o)
          | inr m =>
            exfalso
            have c : Ob.lft (ob v k) ≠ Ob.equal := fun z => n4 ((known 4 _ (by decide) (by decide) rfl).mpr z)
            have c9 : Ob.lft (ob v k) ≠ Ob.less := fun z => n9 ((known 9 _ (by decide) (by decide) rfl).mpr z)
            unfold Sp.plain at e
            rw [if_neg c, if_neg c9] at e
            split at e
            · split at e <;> cases e
            · split at e
              · split at e <;> cases e
              · split at e
                · split at e
                  · cases e
                  · split at e <;> cases e
                · split at e
                  · split at e
                    · cases e
                    · split at e <;> cases e
                  · split at e
                    · split at e <;> cases e
                    · cases e
      refine ⟨fun n4 => rw_218 hT0 hE ih hO hd hA' h9 (fun n9 => hn' n9 n4) hR, fun h4 => ?_⟩
      have h4 : x3 = 4 := Decidable.not_not.mp h4
      have hL := (known 4 Ob.equal (by decide) (by decide) rfl).mp h4
      have hcq : (ob v k).isCallOf Ob.equal = true := Ob.isCallOf_iff.mpr ⟨_, by rw [ep, ← eL, hL]⟩
      have pl := plain_equal hL
      have n1 : ¬ Ob.item (ob v k) 1 = Ob.item (ob v k) 2 := fun z => by rw [if_pos z] at pl; exact absurd pl (hno _)
      rw [if_neg n1] at pl
      have nocons : (Ob.isCallOf (Ob.item (ob v k) 1) Ob.cons && Ob.isCallOf (Ob.item (ob v k) 2) Ob.cons) = false → pw_apply_218 (fun w => pw_rewritten_21 Q w) (v0.1 102) k x3 v := by
        intro hz
        refine rw_218 hT0 hE ih hO hd hA' (fun z => by omega) (fun _ => ?_) hR
        rw [if_neg (by rw [hz]; decide)] at pl
        split at pl
        · exact absurd pl (hno _)
        · split at pl
          · exact absurd pl (hno _)
          · exact pl
      refine p_it hT nk hcq equal_q (arOf_equal E) (by decide) (by decide) (by decide) (fun a na ea => ?_)
      have ea : ob v a = Ob.item (ob v k) 1 := ea
      refine p_callK hT hU na.1 na.2.1 5 (by decide) (by decide) rfl (fun r1 hr1 => ?_)
      rw [ea] at hr1
      refine ⟨fun hz => nocons (by rw [hr1.f hz]; rfl), fun hz => ?_⟩
      have hca := hr1.t hz
      refine p_it hT nk hcq equal_q (arOf_equal E) (by decide) (by decide) (by decide) (fun b nb eb => ?_)
      have eb : ob v b = Ob.item (ob v k) 2 := eb
      refine p_callK hT hU nb.1 nb.2.1 5 (by decide) (by decide) rfl (fun r2 hr2 => ?_)
      rw [eb] at hr2
      refine ⟨fun hy => nocons (by rw [hr2.f hy]; simp), fun hy => ?_⟩
      have hcb := hr2.t hy
      rw [if_pos (by rw [hca, hcb]; rfl)] at pl
      rw [rest_inr pl] at hR
      refine p_it hT nk hcq equal_q (arOf_equal E) (by decide) (by decide) (by decide) (fun a2 na2 ea2 => ?_)
      refine p_it hT nk hcq equal_q (arOf_equal E) (by decide) (by decide) (by decide) (fun b2 nb2 eb2 => ?_)
      have ea2 : ob v a2 = Ob.item (ob v k) 1 := ea2
      have eb2 : ob v b2 = Ob.item (ob v k) 2 := eb2
      refine p_it hT na2 (by rw [ea2]; exact hca) cons_q (arOf_cons E) (by decide) (by decide) (by decide) (fun a3 na3 ea3 => ?_)
      refine p_it hT nb2 (by rw [eb2]; exact hcb) cons_q (arOf_cons E) (by decide) (by decide) (by decide) (fun b3 nb3 eb3 => ?_)
      have k4 := kn hT hU 4 (by decide) (by decide) rfl
      refine p_made2 hT hU h71 k4.1 k4.2.1 (by rw [k4.2.2]; exact Ob.sym_isSym _) (by rw [k4.2.2]; exact equal_q) na3.1 na3.2.1 na3.2.2.1 nb3.1 nb3.2.1 nb3.2.2.1 (fun x w hG x0 x1 ex tx fx => ?_)
      rw [k4.2.2] at ex
      have nx : Nd w E x := Nd_mk2 x0 x1 ex tx equal_q (Ob.sym_isSym _) (arOf_equal E) na3.2.2.2 nb3.2.2.2
      have hm1 : MK (Sp.mk2 Ob.equal (Ob.item (Ob.item (ob v k) 1) 1) (Ob.item (Ob.item (ob v k) 2) 1)) s w x := by
        have := MK_big (n := 3) (s := s) h61 ex fx
        rw [ea3, ea2, eb3, eb2] at this
        exact this
      have hTw := hG.1.1
      have hUw := hG.1.2.1
      have w71 : 0 ≤ w.1 71 := by rw [hG.2.1]; exact h71
      obtain ⟨na2w, ea2w⟩ := na2.mono hT hG.1
      obtain ⟨nb2w, eb2w⟩ := nb2.mono hT hG.1
      refine p_it hTw na2w (by rw [ea2w, ea2]; exact hca) cons_q (arOf_cons E) (by decide) (by decide) (by decide) (fun a4 na4 ea4 => ?_)
      refine p_it hTw nb2w (by rw [eb2w, eb2]; exact hcb) cons_q (arOf_cons E) (by decide) (by decide) (by decide) (fun b4 nb4 eb4 => ?_)
      have k4w := kn hTw hUw 4 (by decide) (by decide) rfl
      refine p_made2 hTw hUw w71 k4w.1 k4w.2.1 (by rw [k4w.2.2]; exact Ob.sym_isSym _) (by rw [k4w.2.2]; exact equal_q) na4.1 na4.2.1 na4.2.2.1 nb4.1 nb4.2.1 nb4.2.2.1 (fun y w2 hG2 y0 y1 ey ty fy => ?_)
      rw [k4w.2.2] at ey
      have ny : Nd w2 E y := Nd_mk2 y0 y1 ey ty equal_q (Ob.sym_isSym _) (arOf_equal E) na4.2.2.2 nb4.2.2.2
      have hT2 := hG2.1.1
      have hU2 := hG2.1.2.1
      have w271 : 0 ≤ w2.1 71 := by rw [hG2.2.1]; exact w71
      obtain ⟨nx2, ex2⟩ := nx.mono hTw hG2.1
      have k3 := kn hT2 hU2 3 (by decide) (by decide) rfl
      have k0 := kn hT2 hU2 0 (by decide) (by decide) rfl
      refine p_made3 hT2 hU2 w271 k3.1 k3.2.1 (by rw [k3.2.2]; exact Ob.sym_isSym _) (by rw [k3.2.2]; exact ifS_q) nx2.1 nx2.2.1 nx2.2.2.1 ny.1 ny.2.1 ny.2.2.1 k0.1 k0.2.1 (Tm_leaf (by rw [k0.2.2]; rfl)) (fun z w3 hG3 z0 z1 ez tz fz => ?_)
      rw [k3.2.2, k0.2.2, ex2] at ez
      have nz : Nd w3 E z := Nd_mk3 z0 z1 ez tz ifS_q (Ob.sym_isSym _) (arOf_ifS E) nx.2.2.2 ny.2.2.2 (Ob.wt_leaf rfl)
      refine rw_passMK hT0 ih hO hI hd h104 h109 ((hG.tr hG2).tr hG3) nz (m := Sp.bd (Sp.mk2 Ob.equal (Ob.item (Ob.item (ob v k) 1) 1) (Ob.item (Ob.item (ob v k) 2) 1)) fun x => Sp.bd (Sp.mk2 Ob.equal (Ob.item (Ob.item (ob v k) 1) 2) (Ob.item (Ob.item (ob v k) 2) 2)) fun y => Sp.mk3 Ob.ifS x y Ob.nil) ?_ hR
      rcases hm1 with ⟨s1, e1, es1, w61⟩ | ⟨s1, e1, es1, w61⟩
      · have hm2 : MK (Sp.mk2 Ob.equal (Ob.item (Ob.item (ob v k) 1) 2) (Ob.item (Ob.item (ob v k) 2) 2)) s1 w2 y := by
          have := MK_big (n := 3) (s := s1) w61 ey fy
          rw [ea4, ea2w, ea2, eb4, eb2w, eb2] at this
          exact this
        rcases hm2 with ⟨s2, e2, es2, w261⟩ | ⟨s2, e2, es2, w261⟩
        · have hm3 := MK_big (n := 4) (s := s2) w261 ez fz
          rcases hm3 with ⟨s3, e3, es3, w361⟩ | ⟨s3, e3, es3, w361⟩
          · exact Or.inl ⟨s3, (bind_ok e1).trans ((bind_ok e2).trans e3), by omega, w361⟩
          · exact Or.inr ⟨s3, (bind_ok e1).trans ((bind_ok e2).trans e3), by omega, w361⟩
        · exact Or.inr ⟨s2, by rw [bind_ok e1]; exact bind_err e2, by omega, by rw [fz]; exact bw_ne w261⟩
      · exact Or.inr ⟨s1, bind_err e1, es1, by rw [fz]; exact bw_ne (by rw [fy]; exact bw_ne w61)⟩
    · rcases hy with ⟨h, _⟩ | ⟨ny, h⟩
      · exact absurd h hz
      · exact rw_end hO hI h104 h109 ny (fun _ => by rw [hR, rest_inl h]; rfl) (fun z => absurd h61 z)
