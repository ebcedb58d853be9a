/-! eval, simplify, on, off, undo -/
theorem Kp.num61 {u v : iST} (hu : TI u) (h : Kp u v) (x : Int) : Kp u (iI v 61 x) := by
  have t : ∀ k, k ≤ 11 → (iI v 61 x).1 k = v.1 k ∧ (iI v 61 x).2.1 k = v.2.1 k := fun k hk => ⟨if_neg (by omega), rfl⟩
  exact h.tr hu ⟨TI_eq h.1 t rfl, ExtT.same t rfl ⟨rfl, rfl, rfl, rfl, rfl⟩, h.2.2.1, h.2.2.2.1, h.2.2.2.2.1, Fx_I (k := 61) rfl⟩
theorem Kp.out {v w : iST} (h69 : v.1 69 = 0) (h71 : v.1 71 = 0) (hv : TI v) (t : TPost (iI v 16 0) w) : Kp v w := Kp.told h69 h71 hv (Grow.rf hv) t
theorem g_eval {u : iST} {o : Int} {Q : Int → iST → Prop} (hP : Pre u) (o0 : 0 ≤ o) (o1 : o < u.1 8) (hw : wB u o ≤ 1000) (hqA : ∀ b v, Kp u v → Q b v) : w_eval o Q u := by
  have hW := hP.1
  have hC := hP.2.1
  have hu := hW.1.1
  have hG := hW.1
  have hO := hW.2.2.2.1
  have u8 := hP.2.2.2.1
  have u6 := hP.2.2.2.2.1
  have u60 := hP.2.2.2.2.2.1
  have u59 := hW.2.2.2.2.2.2
  have k23 : ∀ (t : Int) (v : iST), Kp u v → v.1 8 ≤ 54000 → v.1 6 = u.1 6 → v.1 60 = u.1 60 → (t = -1 ∨ TJ v t) → w_eval_23 Q t v := by
    intro t v kv v8 v6 v60 ht
    have vT := kv.1
    have vC := kv.core hu hC
    have v59 : v.1 59 = u.1 59 := fx_s kv.2.2.2.2.2 59 rfl
    have vW : WI v := WI.mk vT vC kv.2.2.1 kv.2.2.2.1 kv.2.2.2.2.1 (by omega) (by omega) (by omega)
    unfold w_eval_23
    refine br_i (fun hne => ?_) fun _ => hqA 2 v kv
    have ht := ht.resolve_left hne
    have ts := ht.2
    refine g_variablesOf vT ht.1.w (by omega) fun w a1 a2 a3 _ _ a6 => rd_i fun _ => ?_
    have kw := kv.tr hu (Kp.fz vW (a1.mono fV_Z) a2)
    have tb : ∀ k, k ≤ 11 → w.1 k = v.1 k ∧ w.2.1 k = v.2.1 k := fun k hk => a1 k (fV_75 k hk)
    have wT := kw.1
    have wC := kw.core hu hC
    have w59 : w.1 59 = v.1 59 := fx_s a1 59 rfl
    have w60 : w.1 60 = v.1 60 := fx_s a1 60 rfl
    have w8 := (tb 8 (by decide)).1
    have w6 := (tb 6 (by decide)).1
    refine br_i (fun hle => ?_) fun _ => hqA 2 w kw
    have hno : TV w (fun _ => False) t := by
      refine ⟨(ht.eqt vT tb a2 (SameF.of a1 rfl rfl rfl rfl rfl)).1, ?_⟩
      refine (AllT.eq tb a6).mono (fun x hx hz => ?_)
      rw [(tb 0 (by decide)).2] at hz
      obtain ⟨j, j0, j1, _⟩ := hx hz
      omega
    refine g_evaluated wT wC.di wC.db hno (by omega) (by omega) (by omega) (by omega) (by omega) fun r y hy h1 h2 => ?_
    obtain ⟨e1, e2, e3, e4, e5, e6, e7, e8, e9, e10, e11⟩ := hy
    have ky : Kp u y := kw.tr hu ⟨e1, e2, by rw [fx_s e3 69 rfl]; exact kw.2.2.1, by rw [fx_s e3 71 rfl]; exact kw.2.2.2.1, OI_eq kw.2.2.2.2.1 (fx_s e3 16 rfl) (fx_s e3 22 rfl), e3.mono (fun k hk => fE_M k (fM_A k hk))⟩
    refine br_i (fun hr => ?_) fun _ => rd_i fun _ => s_fail fun z hz _ _ => ?_
    · have h89 : y.1 89 = 0 := by
        by_cases e : y.1 89 = 0
        · exact e
        · exact absurd (h2 e) hr
      obtain ⟨r0, r1⟩ := h1 h89
      exact g_tellOut e1 ky.2.2.2.2.1 r0 r1 fun z hz => hqA 0 z (ky.tr hu (Kp.out ky.2.2.1 ky.2.2.2.1 e1 hz))
    · rcases hz with rfl | rfl
      · exact hqA 4 _ ky
      · exact hqA 4 _ (ky.num61 hu _)
  unfold w_eval
  refine s_lengthOf hu o0 o1 (fun _ => br_y (by decide) (k23 (-1) u (Kp.rf hW) (by omega) rfl rfl (Or.inl rfl))) fun n _ hn => br_i (fun _ => k23 (-1) u (Kp.rf hW) (by omega) rfl rfl (Or.inl rfl)) fun hn2 => ?_
  have en : n = 2 := by omega
  subst en
  have r1 := IsL.elr hu hn 1 (by omega)
  have b0 : wB u o = wA u (el u o 0) + wB u (dr u o 1) := wB_dr hu (i := 0) hn (by omega)
  have b1 : wB u (dr u o 1) = wA u (el u o 1) + wB u (dr u o 2) := wB_dr hu (i := 1) hn (by omega)
  have b2 := wB_drp hu (i := 2) hn (by omega)
  have r0 := IsL.elr hu hn 0 (by omega)
  have w0 := w_pos hu r0.1 r0.2
  refine s_nth hu o0 o1 (by decide) (by decide) (g_term hG r1.1 r1.2 (by show wA u (el u o 1) ≤ 1100; omega) (by show u.1 8 + wA u (el u o 1) < 451990; omega) fun t v hv _ ht => ?_)
  have v8 : v.1 8 ≤ u.1 8 + (wA u (el u o 1) - 1) := hv.2.2.2.2.2.1
  exact k23 t v (hv.kp hO) (by omega) hv.2.2.2.2.2.2.1 (fx_s hv.2.2.1 60 rfl) ht
theorem g_simplify {u : iST} {o : Int} {Q : Int → iST → Prop} (hP : Pre u) (o0 : 0 ≤ o) (o1 : o < u.1 8) (hw : wB u o ≤ 1000) (hqA : ∀ b v, Kp u v → Q b v) : w_simplify o Q u := by
  have hW := hP.1
  have hC := hP.2.1
  have hu := hW.1.1
  have hG := hW.1
  have hO := hW.2.2.2.1
  have u8 := hP.2.2.2.1
  have u6 := hP.2.2.2.2.1
  have u60 := hP.2.2.2.2.2.1
  have u59 := hW.2.2.2.2.2.2
  have k23 : ∀ (t : Int) (v : iST), Kp u v → v.1 8 ≤ 54000 → v.1 6 = u.1 6 → v.1 60 = u.1 60 → (t = -1 ∨ TJ v t) → w_simplify_23 Q t v := by
    intro t v kv v8 v6 v60 ht
    have vT := kv.1
    have vC := kv.core hu hC
    have v59 : v.1 59 = u.1 59 := fx_s kv.2.2.2.2.2 59 rfl
    have vW : WI v := WI.mk vT vC kv.2.2.1 kv.2.2.2.1 kv.2.2.2.2.1 (by omega) (by omega) (by omega)
    unfold w_simplify_23
    refine br_i (fun hne => sw_i ?_) fun _ => hqA 2 v kv
    have ht := ht.resolve_left hne
    have hS : SP fLy v (iI v 109 0) 0 0 := SP.sameL vW (Fx_I (k := 109) rfl) rfl
    have zW := hS.wiL vW
    have kz := kv.tr hu hS.kp
    have z8 : (iI v 109 0).1 8 = v.1 8 := rfl
    have z6 : (iI v 109 0).1 6 = v.1 6 := rfl
    have z59 : (iI v 109 0).1 59 = v.1 59 := rfl
    have z60 : (iI v 109 0).1 60 = v.1 60 := rfl
    have zX : CX (iI v 109 0) := ⟨Int.le_refl _, (by decide : (0 : Int) ≤ 200), fun i i0 i1 => by have i1 : i < 0 := i1; omega⟩
    have z109 : (iI v 109 0).1 109 ≤ 130 := (by decide : (0 : Int) ≤ 130)
    have zt := ht.ext vT hS.2.1
    generalize iI v 109 0 = z at *
    refine g_rewritten zW ⟨by omega, by omega⟩ zX z109 zt.1 (fun _ => zt.2) (Or.inl rfl) fun r y hy yW hy0 => sw_i (rd_i fun _ => ?_)
    have hyL : SP fLy z y 600 16 := hy.up (fun k hk => fJ_C k (fC_L k hk))
    have ky := kz.tr hu hyL.kp
    have hS2 : SP fLy y (iI y 109 0) 0 0 := SP.sameL yW (Fx_I (k := 109) rfl) rfl
    have kx := ky.tr hu hS2.kp
    refine br_i (fun h61 => ?_) fun _ => hqA 4 _ kx
    have htj := (hy0 h61).2.2.1
    have rr := htj.1.r
    exact g_tellOut kx.1 kx.2.2.2.2.1 rr.1 rr.2 fun x hx => hqA 0 x (kx.tr hu (Kp.out kx.2.2.1 kx.2.2.2.1 kx.1 hx))
  unfold w_simplify
  refine s_lengthOf hu o0 o1 (fun _ => br_y (by decide) (k23 (-1) u (Kp.rf hW) (by omega) rfl rfl (Or.inl rfl))) fun n _ hn => br_i (fun _ => k23 (-1) u (Kp.rf hW) (by omega) rfl rfl (Or.inl rfl)) fun hn2 => ?_
  have en : n = 2 := by omega
  subst en
  have r1 := IsL.elr hu hn 1 (by omega)
  have b0 : wB u o = wA u (el u o 0) + wB u (dr u o 1) := wB_dr hu (i := 0) hn (by omega)
  have b1 : wB u (dr u o 1) = wA u (el u o 1) + wB u (dr u o 2) := wB_dr hu (i := 1) hn (by omega)
  have b2 := wB_drp hu (i := 2) hn (by omega)
  have r0 := IsL.elr hu hn 0 (by omega)
  have w0 := w_pos hu r0.1 r0.2
  refine s_nth hu o0 o1 (by decide) (by decide) (g_term hG r1.1 r1.2 (by show wA u (el u o 1) ≤ 1100; omega) (by show u.1 8 + wA u (el u o 1) < 451990; omega) fun t v hv _ ht => ?_)
  have v8 : v.1 8 ≤ u.1 8 + (wA u (el u o 1) - 1) := hv.2.2.2.2.2.1
  exact k23 t v (hv.kp hO) (by omega) hv.2.2.2.2.2.2.1 (fx_s hv.2.2.1 60 rfl) ht
theorem g_turn {u : iST} {o on : Int} {Q : Int → iST → Prop} (hP : Pre u) (o0 : 0 ≤ o) (o1 : o < u.1 8) (hon : bz on) (hqA : ∀ b v, Kp u v → Q b v) : w_turn o on Q u := by
  have hW := hP.1
  have hC := hP.2.1
  have hu := hW.1.1
  have um := hu.2.1
  have stop : ∀ b, Q b u := fun b => hqA b u (Kp.rf hW)
  unfold w_turn
  refine s_lengthOf hu o0 o1 (fun _ => br_y (by decide) (stop 2)) fun n _ hn => br_i (fun _ => stop 2) fun hn2 => ?_
  have en : n = 2 := by omega
  subst en
  have r1 := IsL.elr hu hn 1 (by omega)
  refine s_nth hu o0 o1 (by decide) (by decide) (s_isNewName r1.1 (by show el u o 1 < 452000; omega) fun b _ _ => br_i (fun _ => s_nth hu o0 o1 (by decide) (by decide) (s_theoremOf hC.2.1.1 hC.2.1.2 fun r hr => br_i (fun _ => stop 3) fun hr1 => ?_)) fun _ => stop 2)
  have c2 := hC.2.1.2
  rcases hr with ⟨z, _⟩ | ⟨r0, r2, _⟩
  · exact absurd z hr1
  · refine bd_i r0 (by omega) (rd_i fun _ => br_i (fun _ => (show zt on _ from ⟨hon, bd_i r0 (by omega) (sw_i ?_)⟩)) fun _ => stop 3)
    have hF : Fx fA u (iA u 52 r on) := Fx_A (k := 52) rfl
    have t : ∀ k, k ≤ 11 → (iA u 52 r on).1 k = u.1 k ∧ (iA u 52 r on).2.1 k = u.2.1 k := fun k hk => ⟨rfl, iA_other (by omega)⟩
    exact hqA 0 _ ⟨TI_eq hu t rfl, ExtT.same t rfl ⟨rfl, rfl, rfl, rfl, rfl⟩, hW.1.2.2.1, hW.1.2.2.2, hW.2.2.2.1, hF⟩
/-- something was taken back -/
def Un (u v : iST) : Prop := v.2 = u.2 ∧ 0 < u.1 54 ∧ v.1 54 = u.1 54 - 1 ∧ v.1 132 = u.2.1 56 (u.1 54 - 1) ∧ ((u.2.1 55 (u.1 54 - 1) = 1 ∧ v.1 35 = u.1 35 - 1 ∧ v.1 42 = u.1 42) ∨ (u.2.1 55 (u.1 54 - 1) ≠ 1 ∧ v.1 35 = u.1 35 ∧ v.1 42 = u.1 42 - 1)) ∧ ∀ k, k ≠ 35 → k ≠ 42 → k ≠ 54 → k ≠ 132 → k ≠ 63 → v.1 k = u.1 k
theorem g_undo {u : iST} {o : Int} {Q : Int → iST → Prop} (hP : Pre u) (o0 : 0 ≤ o) (o1 : o < u.1 8) (hqA : ∀ b v, Kp u v → Q b v) (hqC : ∀ v, Un u v → Q 0 v) : w_undo o Q u := by
  have hW := hP.1
  have hC := hP.2.1
  have hu := hW.1.1
  have u54 := hP.2.2.1
  have c1 := hC.1
  have c2 := hC.2.1
  have stop : ∀ b, Q b u := fun b => hqA b u (Kp.rf hW)
  unfold w_undo
  refine s_lengthOf hu o0 o1 (fun _ => br_n (by decide) (stop 2)) fun n _ hn => br_i (fun _ => rd_i fun _ => br_i (fun hne => rd_i fun _ => ov_i (by omega) (by omega) (sw_i (rd_i fun _ => ?_))) fun _ => stop 3) fun _ => stop 2
  have e54 : (iI u 54 (u.1 54 - 1)).1 54 = u.1 54 - 1 := rfl
  rw [e54]
  refine bd_i (by omega) (by omega) (rd_i fun _ => ?_)
  have k66 : ∀ v, v.2 = u.2 → v.1 54 = u.1 54 - 1 → (∀ x, Un u (iI v 132 x) ∨ x ≠ u.2.1 56 (u.1 54 - 1)) → w_undo_66 Q v := by
    intro v v2 v54 hv
    unfold w_undo_66
    refine rd_i fun _ => ?_
    rw [v54]
    refine bd_i (by omega) (by omega) (rd_i fun _ => sw_i (hqC _ ?_))
    rw [v2]
    rcases hv (u.2.1 56 (u.1 54 - 1)) with z | z
    · exact z
    · exact absurd rfl z
  refine br_i (fun h1 => rd_i fun _ => ov_i (show -2147483648 ≤ u.1 42 - 1 by omega) (show u.1 42 - 1 < 2147483648 by omega) (sw_i ?_)) fun h1 => rd_i fun _ => ov_i (show -2147483648 ≤ u.1 35 - 1 by omega) (show u.1 35 - 1 < 2147483648 by omega) (sw_i ?_)
  · refine k66 _ rfl rfl (fun x => ?_)
    by_cases ex : x = u.2.1 56 (u.1 54 - 1)
    · exact Or.inl ⟨rfl, by omega, rfl, ex, Or.inr ⟨h1, rfl, rfl⟩, fun k k1 k2 k3 k4 _ => (if_neg k4).trans ((if_neg k2).trans (if_neg k3))⟩
    · exact Or.inr ex
  · refine k66 _ rfl rfl (fun x => ?_)
    by_cases ex : x = u.2.1 56 (u.1 54 - 1)
    · have h1 : ¬ u.2.1 55 (u.1 54 - 1) ≠ 1 := h1
      exact Or.inl ⟨rfl, by omega, rfl, ex, Or.inl ⟨by omega, rfl, rfl⟩, fun k k1 k2 k3 k4 _ => (if_neg k4).trans ((if_neg k1).trans (if_neg k3))⟩
    · exact Or.inr ex
