-- deps: 799971
/-! the class between calls, LEFT too -/
def CfN [DecidableEq Ob] (u : iST) (S : Sp.St) (n : Int) : Prop := CfS u S n ∧ u.1 15 = (S.2.2.2.2.2.1 : Int) ∧ (u.1 50 ≠ 0 → NgI u ∧ u.1 15 = 0) ∧ u.1 29 ≤ 144550 + n
theorem CfS.ct [DecidableEq Ob] {u : iST} {S : Sp.St} {n : Int} (h : CfS u S n) : CT u := h.1.choose_spec.1
theorem KpG.cf [DecidableEq Ob] {u v : iST} {S S' : Sp.St} {n n' : Int} (h : KpG u v) (hC : CfN u S n) (hS : CfS v S' n') (eL : S'.2.2.2.2.2.1 = S.2.2.2.2.2.1) (h9 : v.1 29 ≤ 144550 + n') : CfN v S' n' := ⟨hS, by rw [h.1.2.1, eL]; exact hC.2.1, h.ng hC.1.ct hS.ct hC.2.2.1, h9⟩
theorem pc_feedN [DecidableEq Ob] {a b c d e : Int} {Q : iST → Prop} {u : iST} {S : Sp.St} {n : Int} (hC : CfN u S n) (hq : ∀ v, CfN v (S.1, S.2.1, S.2.2.1, Sp.feedW [a, b, c, d, e], S.2.2.2.2) (n + 30) → Q v) : pv_11_feed a b c d e Q u := pc_feedS hC.1 (fun v h k e9 => hq v (k.cf hC h rfl (by have := hC.2.2.2; omega)))
theorem pc_endN [DecidableEq Ob] {a : Int} {Q : Int → iST → Prop} {u : iST} {S : Sp.St} {n : Int} (hC : CfN u S n) (hq : ∀ v, CfN v (Sp.endS S a) (n + 30) → Q (Sp.endA S a) v) : pv_11_end a Q u := pc_endS hC.1 (fun v h k e9 => hq v (k.cf hC h (by unfold Sp.endS; split <;> rfl) (by have := hC.2.2.2; omega)))
theorem pc_fuelN [DecidableEq Ob] {a : Int} {Q : Int → iST → Prop} {u : iST} {S : Sp.St} {n : Int} (hC : CfN u S n) (hq : ∀ v, CfN v (Sp.fuelS S a) n → Q (Sp.fuelA S a) v) : pv_11_fuel a Q u := pc_fuelS hC.1 (fun v h k e9 => hq v (k.cf hC h (by unfold Sp.fuelS; split <;> rfl) (by have := hC.2.2.2; omega)))
theorem pc_runN [DecidableEq Ob] {Q : Int → iST → Prop} {u : iST} {S : Sp.St} {n : Int} (hn : n ≤ 15450) (hC : CfN u S n) (hq : ∀ ans v r, Sp.RanT0 S.1 S.2.1 S.2.2.1 r → CfN v (Sp.runS S r) n → Q ans v) : pv_11_run Q u := by
  refine pc_runS hn hC.1 (fun ans v r hr h x x9 => hq ans v r hr ⟨h, x.1, fun z => ?_, x9⟩)
  have hb : bq (v.1 50) r.2.2.2 := h.2.2.2.2.2.2.1
  obtain ⟨q1, q2⟩ := x.2 (hb.t z)
  exact ⟨q1, by rw [x.1, q2]; rfl⟩
theorem pc_countN [DecidableEq Ob] {a : Int} {Q : Int → iST → Prop} {u : iST} {S : Sp.St} {n : Int} (hC : CfN u S n) (hq : Q (Sp.countC S a) u) : pv_11_count a Q u := by
  refine pc_countS hC.1 (fun _ => hq) (fun e => ?_)
  rw [hC.2.1]
  have e4 : Sp.countC S a = (S.2.2.2.2.2.1 : Int) := by
    unfold Sp.countC
    rw [if_neg (by omega), if_neg (by omega), if_neg (by omega), if_neg (by omega), if_pos e]
  rw [← e4]
  exact hq
theorem k_againN [DecidableEq Ob] {u : iST} {Q : Int → iST → Prop} {S : Sp.St} {n : Int} (h : HJ u) (hC : CfN u S n) (hq : ∀ r v, bq r S.2.2.2.2.2.2 → CfN v S n → v.1 29 = u.1 29 → Q r v) : v_11_recheck Q u := by
  have hb : bq (u.1 50) S.2.2.2.2.2.2 := hC.1.2.2.2.2.2.2.1
  refine cj_v_11_recheck (Q1 := fun _ v => CfS v S n) (Q2 := fun r v => bq r S.2.2.2.2.2.2 ∧ v.1 15 = u.1 15 ∧ (v.1 50 ≠ 0 → NgI v ∧ v.1 15 = 0) ∧ v.1 29 = u.1 29) (fun r v a b => hq r v b.1 ⟨a, by rw [b.2.1]; exact hC.2.1, b.2.2.1, by rw [b.2.2.2]; exact hC.2.2.2⟩ b.2.2.2) (k_recheckS h hC.1 (fun _ _ q => q)) (pc_again hC.1.ct hC.2.2.1 (fun z => ⟨⟨fun _ => hb.f z, fun _ => rfl⟩, rfl, fun q => absurd z q, rfl⟩) (fun v z ng v15 v50 v29 => ⟨⟨fun q => absurd q (by decide), fun q => ?_⟩, ?_, fun _ => ⟨ng, v15⟩, v29⟩))
  · rw [hb.t z] at q
    cases q
  · rw [v15, (hC.2.2.1 z).2]
theorem bz_bq [DecidableEq Ob] {r r' : Int} {b : Bool} (h : bz r) (hb : bq r b) (h' : bz r') (hb' : bq r' b) : r = r' := by
  cases b with
  | false => rw [hb.mpr rfl, hb'.mpr rfl]
  | true =>
    rcases h with e | e
    · exact absurd (hb.mp e) (by decide)
    · rcases h' with e' | e'
      · exact absurd (hb'.mp e') (by decide)
      · rw [e, e']
