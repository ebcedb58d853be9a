-- deps: 7582
/-! the class: a ROUND from the notes -/
theorem pc_recalledZ [DecidableEq Ob] {x row : Int} {Q : Int → iST → Prop} {u : iST} {E : Sp.Env} {e : List Ob × Ob × Ob} {l : TrL} {k' : Int} (hT : CT u) (hN : NtL E u (u.1 28) (e :: l) k') (h26 : k' ≤ u.1 26) (vx : VN u x) (ex : oc u x = e.2.1) (cx : CxC u E row e.1)
    (hq : ∀ a v, CG (fun k => decide (k = 28)) f80 u v → NdC v E a → oc v a = e.2.2 → NtL E v (v.1 28) l k' → (∀ k, k ≠ 28 → v.1 k = u.1 k) → v.2 = u.2 → Q a v) : pv_6_recalled x 1 row Q u := by
  obtain ⟨⟨h0, h1, h2⟩, ⟨h3, h4⟩, h5, h6, ⟨h7, h8⟩, h9⟩ := hN
  have e0 : u.2.1 52 (5 * u.1 28 + 0) = x := (hT.1.inj h3.1 h3.2 vx.1 vx.2).mp (by rw [h4, ex])
  have e2 : u.2.1 52 (5 * u.1 28 + 2) = row := (hT.1.inj h6.1.1 h6.1.2 cx.1.1 cx.1.2).mp (by rw [h6.2.1, cx.2.1])
  unfold pv_6_recalled
  intro v1 e1 _
  rw [e1]
  refine ⟨fun z => by omega, fun _ => ?_⟩
  intro v2 ev2 _ v3 ev3 _
  rw [ev2, ev3]
  refine ⟨fun _ => ?_, fun z => by omega⟩
  intro v4 ev4 _
  rw [ev4]
  intro _ _ _ _ v7 ev7 _
  rw [ev7, e0]
  refine ⟨fun z => absurd rfl z, fun _ => ?_⟩
  intro _ _ v8 ev8 _
  rw [ev8, h5]
  refine ⟨fun z => absurd rfl z, fun _ => ?_⟩
  intro _ _ v9 ev9 _
  rw [ev9, e2]
  refine ⟨fun _ => ?_, fun z => absurd rfl z⟩
  intro _ _ v10 ev10 _ w ew _ _ v11 ev11 _
  have g : CG (fun k => decide (k = 28)) f80 u w := by rw [ew]; exact CG_I hT (by decide) (by decide)
  have wn : ∀ k, k ≠ 28 → w.1 k = u.1 k := fun k hk => by rw [ew]; exact iIc_ne _ _ hk
  have w28 : w.1 28 = u.2.1 52 (5 * u.1 28 + 4) := by rw [ew, iIc_at, ev10]
  have w2 : w.2 = u.2 := by rw [ew]; rfl
  have ea : v11 = u.2.1 52 (5 * u.1 28 + 3) := by rw [ev11, w2]
  rw [ea]
  obtain ⟨n7, o7⟩ := h7.up hT g
  refine hq _ w g n7 (by rw [o7]; exact h8) ?_ wn w2
  rw [w28]
  exact NtL.keep hT g l _ _ h9 (fun i _ => by rw [w2])
theorem f828_Zp [DecidableEq Ob] : ∀ k, f8Zp k = false → (fun k => decide (k = 28)) k = false := fun k h => by unfold f8Zp at h; exact (Bool.or_eq_false_iff.mp h).2
