-- deps: 475
theorem InJ.st [DecidableEq Ob] {u0 : iST} {E : Sp.Env} {v0 v : iST} {tr : Int} {s s' : Sp.Wk} (h : InJ u0 E v0 v tr s) (e : s'.1 = s.1) : InJ u0 E v0 v tr s' := by
  obtain ⟨a1, a2, a3, a4, a5, a6, a7, a8, a9, a10⟩ := h
  exact ⟨a1, a2, a3, a4, by unfold StL at a5 ⊢; rw [e]; exact a5, a6, a7, a8, a9, a10⟩
theorem GM.n [DecidableEq Ob] {v w : iST} (h : GM v w) (k : Nat) (hk : f7M k = false) : w.1 k = v.1 k := (h.1.2.2.2.2 k hk).1
theorem InJ.gm [DecidableEq Ob] {u0 : iST} {E : Sp.Env} {v0 v w : iST} {tr : Int} {s : Sp.Wk} (h : InJ u0 E v0 v tr s) (hG : GM v w) : InJ u0 E v0 w tr s :=
  h.keep (hG.rk (v0.1 102) (v0.1 104) (v0.1 109)) (Int.le_refl _) (Int.le_refl _) (Int.le_refl _) (hG.n 102 (by decide)) ((hG.n 64 (by decide)).trans h.2.2.2.1) (by unfold StL; rw [hG.n 60 (by decide), hG.n 59 (by decide)]; exact h.2.2.2.2.1) ((congrFun (hG.1.2.2.2.2 93 (by decide)).2 _).trans h.2.2.2.2.2.1)
/-- a job ends with a term that was made -/
theorem rw_endMK [DecidableEq Ob] {u0 : iST} {E : Sp.Env} {Q : Int → iST → Prop} {v0 v w : iST} {R : EStateM.Result Unit Sp.Wk Ob} {tr : Int} {s : Sp.Wk} {m : Sp.M Ob} (hO : Owe u0 E Q v0 R) (hI : InJ u0 E v0 v tr s) (h104 : v.1 104 = v0.1 104) (h109 : v.1 109 = v0.1 109) (hG : GM v w) {x : Int} (hx : Nd w E x) (hm : MK m s w x) (hR : R = Sp.bd m (fun y => Sp.ret (Sp.fin (decide (tr ≠ 0)) y)) s) : pw_end0 x (fun w => pw_rewritten_21 Q w) w := by
  have iw := hI.gm hG
  rcases hm with ⟨s', e, es, h61⟩ | ⟨s', e, es, h61⟩
  · refine rw_end hO (iw.st es) ((hG.n 104 (by decide)).trans h104) ((hG.n 109 (by decide)).trans h109) hx (fun _ => ?_) (fun z => absurd h61 z)
    rw [hR, bind_ok e]; rfl
  · refine rw_end hO (iw.st es) ((hG.n 104 (by decide)).trans h104) ((hG.n 109 (by decide)).trans h109) hx (fun z => absurd z h61) (fun _ => ?_)
    rw [hR, bind_err e]
/-- and one that passes on a term that was made -/
theorem rw_passMK [DecidableEq Ob] {u0 : iST} {E : Sp.Env} {Q : Int → iST → Prop} {d : Nat} (hT0 : TI u0) (ih : RwG u0 E Q d) {v0 v w : iST} {R : EStateM.Result Unit Sp.Wk Ob} {tr : Int} {s : Sp.Wk} {m : Sp.M Ob} (hO : Owe u0 E Q v0 R) (hI : InJ u0 E v0 v tr s) (hd : v0.1 102 + 1 + (d : Int) = 60) (h104 : v.1 104 = v0.1 104) (h109 : v.1 109 = v0.1 109) (hG : GM v w) {x : Int} (hx : Nd w E x) (hm : MK m s w x)
    (hR : R = Sp.bd (Sp.bd m (fun y => Sp.rw E d (cxL v0) y (decide (tr ≠ 0)))) (fun y => Sp.ret (Sp.fin (decide (tr ≠ 0)) y)) s) : pw_passOn x (fun w => pw_rewritten_21 Q w) w := by
  have iw := hI.gm hG
  rcases hm with ⟨s', e, es, h61⟩ | ⟨s', e, es, h61⟩
  · refine rw_pass hT0 ih hO (iw.st es) hd ((hG.n 104 (by decide)).trans h104) ((hG.n 109 (by decide)).trans h109) hx (fun _ => ?_) (fun z => absurd h61 z)
    rw [hR]
    unfold Sp.bd
    rw [e]
  · refine rw_pass hT0 ih hO (iw.st es) hd ((hG.n 104 (by decide)).trans h104) ((hG.n 109 (by decide)).trans h109) hx (fun z => absurd z h61) (fun _ => ?_)
    rw [hR]
    unfold Sp.bd
    rw [e]
theorem ifS_q [DecidableEq Ob] : Ob.ifS ≠ Ob.quote := Ob.sym_ne (by decide)
theorem rw_join [DecidableEq Ob] {u0 : iST} {E : Sp.Env} {Q : Int → iST → Prop} {v0 v : iST} {R : EStateM.Result Unit Sp.Wk Ob} {tr : Int} {s : Sp.Wk} (hO : Owe u0 E Q v0 R) (hI : InJ u0 E v0 v tr s) (h61 : v.1 61 = 0) (h104 : v.1 104 = v0.1 104) (h109 : v.1 109 = v0.1 109) {a b c : Int} (na : Nd v E a) (nb : Nd v E b) (nc : Nd v E c)
    (hR : R = Sp.bd (Sp.rwJoin (decide (tr ≠ 0)) (ob v a) (ob v b) (ob v c)) (fun y => Sp.ret (Sp.fin (decide (tr ≠ 0)) y)) s) : pw_join (v0.1 102) a b c (fun w => pw_rewritten_21 Q w) v := by
  have hT := hI.2.1.1.1
  have hU := hI.2.1.1.2.1
  have h71 : 0 ≤ v.1 71 := by rw [hI.2.1.2.1]; exact hI.2.2.2.2.2.2.2.2.2
  have bc := hT.inj hU nb.1 nb.2.1 nc.1 nc.2.1
  have b1 := kat hT hU 1 (by decide) (by decide) rfl nb.1 nb.2.1
  have b0 := kat hT hU 0 (by decide) (by decide) rfl nb.1 nb.2.1
  have c0 := kat hT hU 0 (by decide) (by decide) rfl nc.1 nc.2.1
  have c1 := kat hT hU 1 (by decide) (by decide) rfl nc.1 nc.2.1
  have simple : ∀ x, Nd v E x → Sp.rwJoin (decide (tr ≠ 0)) (ob v a) (ob v b) (ob v c) = Sp.ret (ob v x) → pw_end0 x (fun w => pw_rewritten_21 Q w) v := fun x hx e => rw_end hO hI h104 h109 hx (fun _ => by rw [hR, e]; rfl) (fun z => absurd h61 z)
  have j75 : ¬ ob v b = ob v c → ¬ (ob v b = Ob.t ∧ ob v c = Ob.nil ∧ (decide (tr ≠ 0) = true ∨ (ob v a).isBool = true)) → ¬ (ob v b = Ob.nil ∧ ob v c = Ob.t) → pw_join_75 (fun w => pw_rewritten_21 Q w) a b c v := by
    intro n1 n2 n3
    unfold pw_join_75
    have k3 := kn hT hU 3 (by decide) (by decide) rfl
    refine p_made3 hT hU h71 k3.1 k3.2.1 (by rw [k3.2.2]; exact Ob.sym_isSym _) (by rw [k3.2.2]; exact ifS_q) na.1 na.2.1 na.2.2.1 nb.1 nb.2.1 nb.2.2.1 nc.1 nc.2.1 nc.2.2.1 (fun k w hG k0 k1 ek tk fk => ?_)
    rw [k3.2.2] at ek
    refine rw_endMK hO hI h104 h109 hG (Nd_mk3 k0 k1 ek tk ifS_q (Ob.sym_isSym _) (arOf_ifS E) na.2.2.2 nb.2.2.2 nc.2.2.2) (MK_big (n := 4) h61 ek fk) ?_
    rw [hR]
    unfold Sp.rwJoin
    rw [if_neg n1, if_neg n2, if_neg n3]
    rfl
  have j49 : ¬ ob v b = ob v c → ¬ (ob v b = Ob.t ∧ ob v c = Ob.nil ∧ (decide (tr ≠ 0) = true ∨ (ob v a).isBool = true)) → pw_join_49 (fun w => pw_rewritten_21 Q w) a b c v := by
    intro n1 n2
    unfold pw_join_49
    refine ⟨fun hb => j75 n1 n2 (fun z => hb (b0.mpr z.1)), fun hb => ⟨fun hc => j75 n1 n2 (fun z => hc (c1.mpr z.2)), fun hc => ?_⟩⟩
    have k15 := kn hT hU 15 (by decide) (by decide) rfl
    refine p_made1 hT hU h71 k15.1 k15.2.1 (by rw [k15.2.2]; exact Ob.sym_isSym _) (by rw [k15.2.2]; exact not_q) na.1 na.2.1 na.2.2.1 (fun k w hG k0 k1 ek tk fk => ?_)
    rw [k15.2.2] at ek
    refine rw_endMK hO hI h104 h109 hG (Nd_mk1 k0 k1 ek tk not_q (Ob.sym_isSym _) (arOf_not E) na.2.2.2) (MK_big (n := 2) h61 ek fk) ?_
    rw [hR]
    unfold Sp.rwJoin
    rw [if_neg n1, if_neg n2, if_pos ⟨b0.mp (Decidable.not_not.mp hb), c1.mp (Decidable.not_not.mp hc)⟩]
    rfl
  unfold pw_join
  refine ⟨fun hbc => ?_, fun hbc => simple b nb (by unfold Sp.rwJoin; rw [if_pos (bc.mpr (Decidable.not_not.mp hbc))])⟩
  have n1 : ¬ ob v b = ob v c := fun z => hbc (bc.mp z)
  refine ⟨fun hb => j49 n1 (fun z => hb (b1.mpr z.1)), fun hb => ⟨fun hc => j49 n1 (fun z => hc (c0.mpr z.2.1)), fun hc => ?_⟩⟩
  have eb := b1.mp (Decidable.not_not.mp hb)
  have ec := c0.mp (Decidable.not_not.mp hc)
  intro _ _ x ex _
  rw [hI.2.2.2.2.2.1] at ex
  rw [ex]
  refine ⟨fun ht => ?_, fun ht => ?_⟩
  · unfold pw_join_41
    exact simple a na (by unfold Sp.rwJoin; rw [if_neg n1, if_pos ⟨eb, ec, Or.inl (decide_eq_true ht)⟩])
  · refine p_isBoolean hT hU na.1 na.2.1 (fun r hr => ⟨fun hz => j49 n1 (fun z => ?_), fun hz => ?_⟩)
    · rcases z.2.2 with z | z
      · exact ht (of_decide_eq_true z)
      · rw [hr.f hz] at z; cases z
    · unfold pw_join_41
      exact simple a na (by unfold Sp.rwJoin; rw [if_neg n1, if_pos ⟨eb, ec, Or.inr (hr.t hz)⟩])
/-- a job within this one -/
theorem rw_sub [DecidableEq Ob] {u0 : iST} {E : Sp.Env} {Q : Int → iST → Prop} {d : Nat} (ih : RwG u0 E Q d) {v0 v : iST} {R : EStateM.Result Unit Sp.Wk Ob} {tr : Int} {s : Sp.Wk} (hO : Owe u0 E Q v0 R) (hI : InJ u0 E v0 v tr s) (hd : v0.1 102 + 1 + (d : Int) = 60) (h104 : v0.1 104 ≤ v.1 104) (h109 : v0.1 109 ≤ v.1 109) (cx : CxOk v E) {k t2 : Int} (hk : Nd v E k)
    (hb : v.1 61 ≠ 0 → R = .error () s)
    (he : v.1 61 = 0 → ∀ s', Sp.rw E d (cxL v) (ob v k) (decide (t2 ≠ 0)) s = .error () s' → R = .error () s')
    (hr : v.1 61 = 0 → ∀ w s' r, Sp.rw E d (cxL v) (ob v k) (decide (t2 ≠ 0)) s = .ok (ob w r) s' → RK (v0.1 102 + 1) (v.1 104) (v.1 109) v w → InJ u0 E v0 w tr s' → w.1 61 = 0 → w.1 104 = v.1 104 → w.1 109 = v.1 109 → w.1 110 = r → Nd w E r → pw_takeResult (v0.1 102) (fun w => pw_rewritten_21 Q w) w) : pw_beginJob k t2 (fun w => pw_rewritten_21 Q w) v := by
  have hI' := hI
  obtain ⟨g0, hK, h102, h64, hS, htr, hC, j0, r0, b0⟩ := hI
  by_cases c : v.1 61 = 0
  · refine ih v s k t2 (g0.tr hK.1) (by omega) (by omega) (by omega) (by rw [hK.2.1]; exact b0) h64 hS c hk cx (fun w s' r hev kw w102 w104 w109 w64 wS w61 w110 w111 nr => ?_) (fun w s' hev gw wS w64 w61 => hO.2 w s' (he c s' hev) gw wS w64 w61)
    rw [h102] at kw
    refine rw_step1 w61 (by omega) j0 w111 (hr c w s' r hev kw ?_ w61 w104 w109 w110 nr)
    exact hI'.keep kw (by omega) h104 h109 w102 w64 wS ((kw.2.2.1 93 _ (by decide) (by decide) (by omega)).trans htr)
  · refine bj_bad hK.1.1 hK.1.2.1 c (fun z kz nz => ?_)
    have iz := hI'.keep (kz (v0.1 102) (v0.1 104) (v0.1 109)) (Int.le_refl _) (Int.le_refl _) (Int.le_refl _) (nz 102 (by decide)) (by rw [nz 64 (by decide)]; exact h64) (by unfold StL; rw [nz 60 (by decide), nz 59 (by decide)]; exact hS) ((kz (v0.1 102 + 1) 0 0).2.2.1 93 _ (by decide) (by decide) (by omega) |>.trans htr)
    exact hO.bad iz (hb c) (by rw [nz 61 (by decide)]; exact c)
/-- a row of the job is set -/
theorem InJ.row [DecidableEq Ob] {u0 : iST} {E : Sp.Env} {v0 v w : iST} {tr : Int} {s : Sp.Wk} (h : InJ u0 E v0 v tr s) {n : Nat} {x : Int} (ew : w = iA v n (v0.1 102) x) (hn : 94 ≤ n ∧ n ≤ 101) : InJ u0 E v0 w tr s ∧ (∀ r c, RK (v0.1 102) r c v w) ∧ w.1 = v.1 ∧ (∀ m, w.2.1 m (v0.1 102) = if m = n then x else v.2.1 m (v0.1 102)) := by
  have hT := h.2.1.1.1
  have hU := h.2.1.1.2.1
  have hf : f7J n = true := by unfold f7J; simp; omega
  have hk : ∀ r c, RK (v0.1 102) r c v w := fun r c => by rw [ew]; exact RK_A hT hU hf (by omega) (fun _ _ => Int.le_refl _) (fun z => by omega) (fun z => by omega) (fun z => by omega) (fun z => by omega)
  have hm : ∀ m, w.2.1 m (v0.1 102) = if m = n then x else v.2.1 m (v0.1 102) := fun m => by
    rw [ew, iA_row]
    by_cases c : m = n
    · rw [if_pos ⟨c, rfl⟩, if_pos c]
    · rw [if_neg (fun z => c z.1), if_neg c]
  have n1 : w.1 = v.1 := by rw [ew]; rfl
  exact ⟨h.keep (hk (v0.1 104) (v0.1 109)) (Int.le_refl _) (Int.le_refl _) (Int.le_refl _) (by rw [n1]) (by rw [n1]; exact h.2.2.2.1) (by unfold StL; rw [n1]; exact h.2.2.2.2.1) (by rw [hm, if_neg (by omega)]; exact h.2.2.2.2.2.1), hk, n1, hm⟩
/-- a number of the job is set -/
theorem InJ.num [DecidableEq Ob] {u0 : iST} {E : Sp.Env} {v0 v w : iST} {tr : Int} {s : Sp.Wk} (h : InJ u0 E v0 v tr s) {n : Nat} {x : Int} (ew : w = iI v n x) (hn : n = 104 ∨ n = 109 ∨ n = 110 ∨ n = 111) : InJ u0 E v0 w tr s ∧ (∀ j r c, RK j r c v w) ∧ w.2 = v.2 ∧ (∀ m, w.1 m = if m = n then x else v.1 m) := by
  have hT := h.2.1.1.1
  have hU := h.2.1.1.2.1
  have hf : f7J n = true := by unfold f7J; simp; omega
  have hk : ∀ j r c, RK j r c v w := fun j r c => by rw [ew]; exact RK_I hT hU hf (by omega) (by omega) _ _ _
  have hm : ∀ m, w.1 m = if m = n then x else v.1 m := fun m => by rw [ew]; rfl
  have n2 : w.2 = v.2 := by rw [ew]; rfl
  exact ⟨h.keep (hk (v0.1 102) (v0.1 104) (v0.1 109)) (Int.le_refl _) (Int.le_refl _) (Int.le_refl _) (by rw [hm, if_neg (by omega)]) (by rw [hm, if_neg (by omega)]; exact h.2.2.2.1) (by unfold StL; rw [hm, hm, if_neg (by omega), if_neg (by omega)]; exact h.2.2.2.2.1) (by rw [n2]; exact h.2.2.2.2.2.1), hk, n2, hm⟩
