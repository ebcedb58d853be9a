-- deps: 79997
/-! recheck leaves LEFT as it is -/
theorem k_leftP [DecidableEq Ob] {u : iST} {Q : Int → iST → Prop} (hT : RT_r u) (hW : ∀ a : iST, a.2 = u.2 → (∀ k, k ∉ [30, 31, 32] → a.1 k = u.1 k) → RT_r a → WK_r a) (hp : u.1 50 ≠ 0 → NF_r u ∧ (0 ≤ u.1 25 ∧ u.1 25 ≤ u.1 1)) (hN : u.1 50 ≠ 0 → NgI u ∧ u.1 15 = 0)
    (hq : ∀ r v, v.1 15 = u.1 15 → v.1 50 = u.1 50 → (u.1 50 ≠ 0 → NgI v) → Q r v) : pv_11_recheck Q u := by
  unfold pv_11_recheck
  intro v1 e1 _
  rw [e1]
  refine ⟨fun h50 => ?_, fun h50 _ => hq 0 u rfl rfl (fun h => absurd h h50)⟩
  obtain ⟨pN, p25⟩ := hp h50
  obtain ⟨ng, h15⟩ := hN h50
  have hTc := hT.c
  unfold pv_7_begin
  intro y1 ey1 y2 ey2 y3 ey3
  have a2 : y3.2 = u.2 := by rw [ey3, ey2, ey1]; rfl
  have as : ∀ k, k ≠ 30 → k ≠ 31 → k ≠ 32 → y3.1 k = u.1 k := fun k h1 h2 h3 => by rw [ey3, iIc_ne _ _ h3, ey2, iIc_ne _ _ h2, ey1, iIc_ne _ _ h1]
  have a30 : y3.1 30 = 1000000 := by rw [ey3, iIc_ne _ _ (by decide), ey2, iIc_ne _ _ (by decide), ey1, iIc_at]
  have a31 : y3.1 31 = 0 := by rw [ey3, iIc_ne _ _ (by decide), ey2, iIc_at]
  have a29 : y3.1 29 = u.1 29 := as 29 (by decide) (by decide) (by decide)
  have aT : RT_r y3 := RT_eq_r hT a29 (by rw [a2]) (fun k _ => by rw [a2])
  have aW : WK_r y3 := hW y3 a2 (fun k hk => by
    simp only [List.mem_cons, List.not_mem_nil, or_false, not_or] at hk
    exact as k hk.1 hk.2.1 hk.2.2) aT
  have aN : NF_r y3 := pN.keep (as 26 (by decide) (by decide) (by decide)) (by omega) (by rw [a2])
  refine wp_v_6_doNotesHold (fun _ _ h => h) (j_doNotesHold_q aW aN (by rw [as 25 (by decide) (by decide) (by decide), as 1 (by decide) (by decide) (by decide)]; exact p25) (by omega) (fun b v hb hv vW v31 vN v27 => ?_))
  have vs : ∀ k, k ∉ (27 :: rwS_q) → k ≠ 30 → k ≠ 31 → k ≠ 32 → v.1 k = u.1 k := fun k h1 h2 h3 h4 => by rw [hv.s k h1, as k h2 h3 h4]
  have vr : ∀ k, k ∉ rwR_q → v.2.1 k = u.2.1 k := fun k h1 => by rw [hv.a k h1, a2]
  have ce : CE u v := ⟨by have := hv.2.1.1; omega, fun k k0 k1 => by rw [hv.2.1.2 k k0 (by omega), a2]⟩
  have ngv : NgI v := ng.keep hTc hv.1.c ce (vs 13 (by decide) (by decide) (by decide) (by decide)) (vs 26 (by decide) (by decide) (by decide) (by decide)) (fun k hk => vr k (by
    have : k = 46 ∨ k = 47 ∨ k = 48 ∨ k = 49 ∨ k = 52 := by omega
    rcases this with q | q | q | q | q <;> rw [q] <;> decide))
  have v50 : v.1 50 = u.1 50 := vs 50 (by decide) (by decide) (by decide) (by decide)
  obtain ⟨E, m, gs, tr, hG, hPv, hNt⟩ := ngv
  refine pc_proveZ hv.1.c hG hPv v27.2 hNt (fun w gw w15 wk => ?_)
  have ngw : NgI w := by
    obtain ⟨k13, k26, k52, ko⟩ := wk
    refine ⟨E, m, gs, tr, GivC.ot hv.1.c gw ko k13 (fun j hj => hj) gs 0 hG, hPv, ?_⟩
    rw [k26]
    exact NtL.keep hv.1.c gw tr _ _ hNt (fun i _ => by rw [k52])
  have fin : ∀ r, Q r w := fun r => hq r w (by rw [w15, h15]) (by rw [gw.2.2.1 50 (by decide)]; exact v50) (fun _ => ngw)
  have R5 : ∀ x : Int, br (x = 0) (ztp 0 (Q 0 w)) (ztp 1 (Q 1 w)) := fun x => ⟨fun _ _ => fin 0, fun _ _ => fin 1⟩
  refine ⟨fun _ _ => fin 0, fun _ => ?_⟩
  unfold pv_4_isAllProved
  intro n1 en1 _
  refine ⟨fun _ _ => R5 0, fun _ => ?_⟩
  intro n2 en2 _
  refine ⟨fun _ _ => R5 0, fun _ => ?_⟩
  intro n3 en3 _
  refine ⟨fun _ _ => R5 1, fun _ => ?_⟩
  unfold pv_6_isAllRecalled
  intro n4 en4 _ n5 en5 _
  exact ⟨fun _ _ => ⟨fun _ _ => R5 0, fun _ _ => R5 1⟩, fun _ _ => ⟨fun _ _ => R5 0, fun _ _ => R5 1⟩⟩
theorem k_left [DecidableEq Ob] {u : iST} {Q : Int → iST → Prop} {S : Sp.St} {n : Int} (h : HJ u) (hS : CfS u S n) (hN : u.1 50 ≠ 0 → NgI u ∧ u.1 15 = 0) (hq : ∀ r v, CfS v S n → v.1 15 = u.1 15 → (v.1 50 ≠ 0 → NgI v ∧ v.1 15 = 0) → Q r v) : v_11_recheck Q u := by
  have hc : CT u := hS.1.choose_spec.1
  refine cj_v_11_recheck (Q1 := fun _ v => CfS v S n) (Q2 := fun _ v => v.1 15 = u.1 15 ∧ v.1 50 = u.1 50 ∧ (u.1 50 ≠ 0 → NgI v)) (fun r v a b => hq r v a b.1 (fun z => ?_)) (k_recheckS h hS (fun _ _ q => q)) (k_leftP (h.1.1.r hc) (fun a a2 ao aT => ?_) (fun h50 => ?_) hN (fun _ _ q1 q2 q3 => ⟨q1, q2, q3⟩))
  · rw [b.2.1] at z
    exact ⟨b.2.2 z, by rw [b.1]; exact (hN z).2⟩
  · have as : ∀ k, k ≠ 30 → k ≠ 31 → k ≠ 32 → a.1 k = u.1 k := fun k h1 h2 h3 => ao k (by simp only [List.mem_cons, List.not_mem_nil, or_false, not_or]; exact ⟨h1, h2, h3⟩)
    have a29 : a.1 29 = u.1 29 := as 29 (by decide) (by decide) (by decide)
    have C : Ce u a := ⟨by omega, fun i _ _ => by rw [a2]⟩
    have hB := h.1.2.1
    have aB : BL a := hB.same (fun k hk => as k (fun e => by rw [e] at hk; revert hk; decide) (fun e => by rw [e] at hk; revert hk; decide) (fun e => by rw [e] at hk; revert hk; decide)) (fun k _ => by rw [a2]) (by rw [a29]; exact hB.2.2.2.1) (fun f f0 f1 => (hB.fun f0 f1).2.2.2.2.1.ext h.1.1 C)
    have w : WK a := ⟨aT.o, aB.BE, Or.inr (by rw [as 37 (by decide) (by decide) (by decide)]; exact h.1.2.2.2.2.1.1), by rw [as 38 (by decide) (by decide) (by decide)]; have := h.1.2.2.2.2.1.2; omega, aB.TB, h.1.2.2.1.keep (by rw [a2]), by rw [as 39 (by decide) (by decide) (by decide)]; exact h.1.2.2.2.1⟩
    exact ⟨aT, BE_e w.2.1, w.2.2.1, w.2.2.2.1, w.2.2.2.2.1, w.2.2.2.2.2.1, w.2.2.2.2.2.2⟩
  · obtain ⟨pN, pC, p25⟩ := h.2 h50
    exact ⟨pN, p25⟩
