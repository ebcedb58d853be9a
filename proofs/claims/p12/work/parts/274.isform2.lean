/-! is it a form? -/
theorem LZ.form {u v : iST} {c e : Int} (hT : TI u) (hC : Core u) (h : LZ u v c e) {o : Int} {n : Nat} (hx : FormOk u o n) : FormOk v o n :=
  hx.ext hT h.1.1.1 h.ex (fx_s h.fx 35 rfl) (fx_s h.fx 42 rfl) (fx_a h.fx 43 rfl) (fun d => DAg.fx h.fx rfl rfl rfl rfl rfl rfl d) hC
theorem owW_0 {u : iST} {o : Int} {n : Nat} (h1 : pFr (u.2.1 0 o) = 0) (h2 : pTo (u.2.1 0 o) n = 0) : owW u o n = wA u o := by
  unfold owW rmW
  rw [h1, h2]
  omega
/-- a list that begins with a rule's name -/
theorem w_rule {u : iST} (hT : TI u) {o : Int} {n : Nat} (hl : IsL u o (n + 1)) (h0 : 27 ≤ u.2.1 0 o) (h1 : u.2.1 0 o ≤ 43) : wA u o = 3 + wB u (dr u o 1) ∧ wB u o = 1 + wB u (dr u o 1) := by
  have a := wA_pair hl.1 hl.2.2.1 (fun z : Quo u o => by have := z.2.1; omega)
  have b : wB u o = wA u (u.2.1 0 o) + wB u (u.2.1 1 o) := wB_pair hT hl.1 hl.2.1 hl.2.2.1
  have c : wA u (u.2.1 0 o) = 1 := wA_atom (by omega) (by have := hT.2.2.2.2.2.2.2.2.1 (u.2.1 0 o) (by omega) (by omega); omega)
  have d : dr u o 1 = u.2.1 1 o := rfl
  rw [d]
  omega
theorem g_isForm {u : iST} {o : Int} {Q : Int → iST → Prop} (hW : WI u) (hC : Core u) (h117 : u.1 117 = 0) (o0 : 0 ≤ o) (o1 : o < u.1 8) (hw : wA u o ≤ 1000) (h8 : u.1 8 + 2 * wA u o < 449000) (h6 : u.1 6 < 39000) (hq : ∀ b v, bz b → LZ u v (2 * wA u o + 600) 1 → (b ≠ 0 → ∃ n, FormOk v o n ∧ v.1 8 ≤ u.1 8 + 2 * owW u o n + (if u.2.1 0 o = 27 then 600 else 0)) → Q b v) : w_isForm o Q u := by
  have hG := hW.1
  have hT := hG.1
  have um := hT.2.1
  have wo := w_pos hT o0 o1
  have rf := LZ.rf hW h117
  have no : ∀ v c e, LZ u v c e → c ≤ 2 * wA u o + 600 → e ≤ 1 → zt 0 (Q 0 v) := fun v c e hv h1 h2 => zt_0 (hq 0 v (Or.inl rfl) (hv.mono h1 h2) (fun z => absurd rfl z))
  have nou := no u 0 0 rf (by omega) (by omega)
  unfold w_isForm
  refine s_lengthOf hT o0 o1 (fun _ => br_n (by decide) nou) fun n hn hl => br_i (fun hge => ?_) fun _ => nou
  obtain ⟨n', rfl⟩ : ∃ n', n = n' + 1 := ⟨n - 1, by omega⟩
  have words := w_rule hT hl
  have d0 : ∀ b v c e, bz b → LZ u v c e → c ≤ 2 * wA u o → e ≤ 1 → (b ≠ 0 → FormOk v o (n' + 1)) → pFr (u.2.1 0 o) = 0 → pTo (u.2.1 0 o) (n' + 1) = 0 → zt b (Q b v) := by
    intro b v c e hb hv h1 h2 h3 h4 h5
    refine ⟨hb, hq b v hb (hv.mono (by omega) h2) (fun z => ⟨n' + 1, h3 z, ?_⟩)⟩
    have := hv.e8
    rw [owW_0 h4 h5]
    split <;> omega
  have at1 : ∀ (m : Nat), 2 ≤ m → m ≤ 4 → (∀ v, LZ u v (2 * wA u o) 1 → (∀ i, 1 ≤ i → i < n' + 1 → TO u (el u o i)) → n' + 1 = m → FormOk v o (n' + 1)) → pFr (u.2.1 0 o) = 0 → pTo (u.2.1 0 o) (n' + 1) = 0 → w_areTerms o 1 m (fun v6 u => zt v6 (Q v6 u)) u := by
    intro m m2 m4 hf h4 h5
    refine g_areTerms (a := 1) hG o0 o1 (by omega) (by omega) (by omega) fun b v hb hv _ hbb => ?_
    have vZ := (rf.gp hT hv).mono (show 0 + wB u o ≤ 2 * wA u o by omega) (show (0 : Int) ≤ 1 by omega)
    refine d0 b v _ _ hb vZ (Int.le_refl _) (Int.le_refl _) (fun z => ?_) h4 h5
    obtain ⟨k, e1, e2, e3⟩ := hbb z
    have := IsL_uniq hT e2 hl
    subst this
    exact hf v vZ e3 (by omega)
  have mk : ∀ v, LZ u v (2 * wA u o) 1 → FormR u o (n' + 1) → FormOk v o (n' + 1) := fun v hv hr => hv.form hT hC ⟨by omega, hl, hr⟩
  refine bd_i o0 (by omega) (rd_i fun _ => ?_)
  refine br_i (fun hr => ?_) fun _ => ?_
  · -- induct
    refine g_isInduction hW hC h117 o0 o1 (by omega) (by omega) fun b v hb hv hbb => ⟨hb, hq b v hb (hv.mono (by omega) (by omega)) (fun z => ?_)⟩
    obtain ⟨k, e1, e2, e3, e4⟩ := hbb z
    have := IsL_uniq hT e2 hl
    subst this
    refine ⟨n' + 1, hv.form hT hC ⟨by omega, hl, ?_⟩, ?_⟩
    · unfold FormR; exact Or.inr (Or.inr (Or.inr (Or.inr (Or.inr (Or.inr (Or.inr (Or.inr (Or.inr (Or.inr (Or.inr ⟨hr, e1, e3⟩))))))))))
    · rw [if_pos hr]
      have w := words (by omega) (by omega)
      have w1 : wB u (dr u o 1) = wA u (el u o 1) + wB u (dr u o 2) := wB_dr hT hl (i := 1) (by omega)
      have w2 : wB u (dr u o 2) = wA u (el u o 2) + wB u (dr u o 3) := wB_dr hT hl (i := 2) (by omega)
      have r2 := IsL.elr hT hl 2 (by omega)
      have r1 := IsL.elr hT hl 1 (by omega)
      have q2 := w_pos hT r2.1 r2.2
      have q1 := w_pos hT r1.1 r1.2
      have e5 : dr u o (n' + 1) = 0 := (dr_nz hT hl (by omega)).mpr rfl
      have : owW u o (n' + 1) = wA u o - (wB u (dr u o 3) - wB u 0) := by
        unfold owW rmW pFr pTo
        rw [if_pos hr, if_pos hr, e5]
      rw [wB_nil hT] at this
      omega
  refine br_i (fun _ => nou) fun _ => ?_
  refine br_i (fun hr => at1 2 (by decide) (by decide) (fun v hv ht he => mk v hv (Or.inl ⟨Or.inl hr, he, ht 1 (by omega) (by omega)⟩)) (by unfold pFr; rw [hr]; decide) (by unfold pTo; rw [hr]; rfl)) fun _ => ?_
  refine br_i (fun hr => at1 2 (by decide) (by decide) (fun v hv ht he => mk v hv (Or.inl ⟨Or.inr hr, he, ht 1 (by omega) (by omega)⟩)) (by unfold pFr; rw [hr]; decide) (by unfold pTo; rw [hr]; rfl)) fun _ => ?_
  refine br_i (fun hr => ?_) fun _ => ?_
  · -- value
    have h4 : pFr (u.2.1 0 o) = 0 := by unfold pFr; rw [hr]; decide
    have h5 : pTo (u.2.1 0 o) (n' + 1) = 0 := by unfold pTo; rw [hr]; rfl
    refine g_areTerms (a := 1) hG o0 o1 (by decide) (by omega) (by omega) fun b v hb hv _ hbb => br_i (fun _ => no v _ _ (rf.gp hT hv) (by omega) (by omega)) fun hz => ?_
    obtain ⟨k, e1, e2, e3⟩ := hbb hz
    clear hbb
    have := IsL_uniq hT e2 hl
    subst this
    have vT := hv.1
    have vE := hv.2.1
    have v8 := vE.1.1.1
    have v8b := hv.2.2.2.2.2.1
    have r1 := IsL.elr hT hl 1 (by omega)
    have w := words (by omega) (by omega)
    have w1 : wB u (dr u o 1) = wA u (el u o 1) + wB u (dr u o 2) := wB_dr hT hl (i := 1) (by omega)
    have w2 := wB_drp hT hl (i := 2) (by omega)
    have q1 := w_pos hT r1.1 r1.2
    refine s_nth vT o0 (by omega) (by decide) (by decide) ?_
    rw [show (1 : Int).toNat = 1 from rfl, el_ext vE.1 hl 1 (by omega)]
    have wv : wA v (el u o 1) = wA u (el u o 1) := (w_ext hT vT vE.1 r1.1 r1.2).1
    refine g_termX (hv.gi hG) r1.1 (by omega) (by rw [wv]; omega) (by rw [wv]; omega) fun t x hx h61 ht => ?_
    rw [wv] at hx
    have xZ := (rf.gp hT hv).gp hT hx
    have xT := hx.1
    have xE := hx.2.1
    have t1 : TO v (el u o 1) := (e3 1 (by omega) (by omega)).ext hT vT vE r1.1 r1.2
    unfold TO at t1
    obtain ⟨a1, a2, a3, a4⟩ := ht.resolve_left (fun z => by have := z.2; omega)
    have x8 := xZ.e8
    have x6 := xZ.e6
    refine g_told xT ⟨a1, a2⟩ (by omega) (by omega) (fun r y hE h60 hr2 => ?_) xZ.1.2.2.2.2.2.2.1
    have yZ := (xZ.ep hT hE h60).mono (show 0 + wB u o + (wA u (el u o 1) - 1) + 1 ≤ 2 * wA u o by omega) (show (0 : Int) + 1 ≤ 1 by omega)
    refine br_i (fun _ => no y _ _ yZ (by omega) (Int.le_refl _)) fun hne => ?_
    refine d0 1 y _ _ (Or.inr rfl) yZ (Int.le_refl _) (Int.le_refl _) (fun _ => ?_) h4 h5
    obtain ⟨c1, c2, c3⟩ := hr2.resolve_left (fun z => hne z.1)
    have vx8 := xE.1.1.1
    have c4 : ToldX y (el u o 1) := ((a4.told xT).mpr c3).ext xT hE.2.1.1 r1.1 (by omega)
    have ey := el_ext yZ.ex.1 hl 1 (by omega)
    refine ⟨by omega, hl.ext hT yZ.ex.1, Or.inr (Or.inl ⟨?_, by omega, ?_, ?_⟩)⟩
    · rw [(yZ.ex.1.2.1 o o0 o1).1]; exact hr
    · rw [ey]; exact (e3 1 (by omega) (by omega)).ext hT yZ.1.1.1 yZ.ex r1.1 r1.2
    · rw [ey]; exact c4
  refine br_i (fun hr => at1 3 (by decide) (by decide) (fun v hv ht he => mk v hv (Or.inr (Or.inr (Or.inl ⟨Or.inl hr, he, ht 1 (by omega) (by omega), ht 2 (by omega) (by omega)⟩)))) (by unfold pFr; rw [hr]; decide) (by unfold pTo; rw [hr]; rfl)) fun _ => ?_
  refine br_i (fun hr => at1 3 (by decide) (by decide) (fun v hv ht he => mk v hv (Or.inr (Or.inr (Or.inl ⟨Or.inr (Or.inl hr), he, ht 1 (by omega) (by omega), ht 2 (by omega) (by omega)⟩)))) (by unfold pFr; rw [hr]; decide) (by unfold pTo; rw [hr]; rfl)) fun _ => ?_
  refine br_i (fun hr => at1 3 (by decide) (by decide) (fun v hv ht he => mk v hv (Or.inr (Or.inr (Or.inl ⟨Or.inr (Or.inr hr), he, ht 1 (by omega) (by omega), ht 2 (by omega) (by omega)⟩)))) (by unfold pFr; rw [hr]; decide) (by unfold pTo; rw [hr]; rfl)) fun _ => ?_
  refine br_i (fun hr => at1 4 (by decide) (by decide) (fun v hv ht he => mk v hv (Or.inr (Or.inr (Or.inr (Or.inl ⟨Or.inl hr, he, ht 1 (by omega) (by omega), ht 2 (by omega) (by omega), ht 3 (by omega) (by omega)⟩))))) (by unfold pFr; rw [hr]; decide) (by unfold pTo; rw [hr]; rfl)) fun _ => ?_
  refine br_i (fun hr => at1 4 (by decide) (by decide) (fun v hv ht he => mk v hv (Or.inr (Or.inr (Or.inr (Or.inl ⟨Or.inr hr, he, ht 1 (by omega) (by omega), ht 2 (by omega) (by omega), ht 3 (by omega) (by omega)⟩))))) (by unfold pFr; rw [hr]; decide) (by unfold pTo; rw [hr]; rfl)) fun _ => ?_
  have rf' : LZ u u (2 * wA u o) 1 := rf.mono (by omega) (by omega)
  refine br_i (fun hr => br_i (fun _ => nou) fun hn2 => ?_) fun _ => ?_
  · -- def
    refine s_nth hT o0 o1 (by decide) (by decide) (s_definition hC.1.1 hC.1.2 fun d hd => br_i (fun _ => nou) fun hdn => ?_)
    obtain ⟨q0, q1, q2, q3⟩ := hd.resolve_left (fun z => hdn z.1)
    exact d0 1 u _ _ (Or.inr rfl) rf' (Int.le_refl _) (Int.le_refl _) (fun _ => mk u rf' (Or.inr (Or.inr (Or.inr (Or.inr (Or.inl ⟨hr, by omega, d, q0, q1, q2⟩)))))) (by unfold pFr; rw [hr]; decide) (by unfold pTo; rw [hr]; rfl)
  refine br_i (fun hr => br_i (fun _ => nou) fun hn2 => ?_) fun _ => ?_
  · -- thm
    refine s_nth hT o0 o1 (by decide) (by decide) (s_theoremOf hC.2.1.1 hC.2.1.2 fun d hd => br_i (fun _ => nou) fun hdn => ?_)
    obtain ⟨q0, q1, q2⟩ := hd.resolve_left (fun z => hdn z.1)
    exact d0 1 u _ _ (Or.inr rfl) rf' (Int.le_refl _) (Int.le_refl _) (fun _ => mk u rf' (Or.inr (Or.inr (Or.inr (Or.inr (Or.inr (Or.inl ⟨hr, by omega, d, q0, q1, q2⟩))))))) (by unfold pFr; rw [hr]; decide) (by unfold pTo; rw [hr]; rfl)
  have own : ∀ (k f : Nat), pFr (u.2.1 0 o) = f → pTo (u.2.1 0 o) (n' + 1) = k → owW u o (n' + 1) = wA u o - (wB u (dr u o f) - wB u (dr u o k)) := fun k f h1 h2 => by
    unfold owW rmW; rw [h1, h2]
  refine br_i (fun hr => br_i (fun _ => nou) fun hn2 => ?_) fun _ => ?_
  · -- weak
    have en : n' = 2 := by omega
    subst en
    have r1 := IsL.elr hT hl 1 (by omega)
    have r2 := IsL.elr hT hl 2 (by omega)
    have w := words (by omega) (by omega)
    have w1 : wB u (dr u o 1) = wA u (el u o 1) + wB u (dr u o 2) := wB_dr hT hl (i := 1) (by omega)
    have w2 := wB_drp hT hl (i := 2) (by omega)
    have q1 := w_pos hT r1.1 r1.2
    have e3 := wB_drp hT hl (i := 3) (by omega)
    have ow := own 3 2 (by unfold pFr; rw [hr]; decide) (by unfold pTo; rw [hr]; rfl)
    refine s_nth hT o0 o1 (by decide) (by decide) (g_isTermList hG r1.1 r1.2 (by show wB u (el u o 1) ≤ _; omega) (by show _ + wB u (el u o 1) < _; omega) fun b v hb hv _ hbb => br_i (fun _ => no v _ _ (rf.gp hT hv) (by show 0 + wB u (el u o 1) ≤ _; omega) (by omega)) fun hz => zt_1 (hq 1 v (Or.inr rfl) ((rf.gp hT hv).mono (by show 0 + wB u (el u o 1) ≤ _; omega) (by omega)) (fun _ => ⟨3, (rf.gp hT hv).form hT hC ⟨by omega, hl, ?_⟩, ?_⟩)))
    · obtain ⟨m, q3, q4⟩ := hbb hz
      exact Or.inr (Or.inr (Or.inr (Or.inr (Or.inr (Or.inr (Or.inl ⟨hr, rfl, m, q3, q4⟩))))))
    · have h1 : v.1 8 ≤ u.1 8 + wB u (el u o 1) := hv.2.2.2.2.2.1
      have h2 : owW u o 3 = wA u o - (wB u (dr u o 2) - wB u (dr u o 3)) := ow
      rw [h2]
      split <;> omega
  refine br_i (fun hr => br_i (fun _ => nou) fun hn2 => ?_) fun _ => ?_
  · -- cut
    have en : n' = 3 := by omega
    subst en
    have r1 := IsL.elr hT hl 1 (by omega)
    have w := words (by omega) (by omega)
    have w1 : wB u (dr u o 1) = wA u (el u o 1) + wB u (dr u o 2) := wB_dr hT hl (i := 1) (by omega)
    have w2 := wB_drp hT hl (i := 2) (by omega)
    have q1 := w_pos hT r1.1 r1.2
    have e3 := wB_drp hT hl (i := 4) (by omega)
    have ow := own 4 2 (by unfold pFr; rw [hr]; decide) (by unfold pTo; rw [hr]; rfl)
    refine s_nth hT o0 o1 (by decide) (by decide) (g_termT hG r1.1 r1.2 (by show wA u (el u o 1) ≤ _; omega) (by show _ + wA u (el u o 1) < _; omega) fun t v hv _ ht => br_i (fun _ => no v _ _ (rf.gp hT hv) (by show 0 + (wA u (el u o 1) - 1) ≤ _; omega) (by omega)) fun hz => zt_1 (hq 1 v (Or.inr rfl) ((rf.gp hT hv).mono (by show 0 + (wA u (el u o 1) - 1) ≤ _; omega) (by omega)) (fun _ => ⟨4, (rf.gp hT hv).form hT hC ⟨by omega, hl, ?_⟩, ?_⟩)))
    · obtain ⟨a1, a2, a3⟩ := ht.resolve_left (fun z => hz z.1)
      have a3 : sz v t = tS u (el u o 1) := a3
      exact Or.inr (Or.inr (Or.inr (Or.inr (Or.inr (Or.inr (Or.inr (Or.inl ⟨hr, rfl, by unfold TO; omega⟩)))))))
    · have h1 : v.1 8 ≤ u.1 8 + (wA u (el u o 1) - 1) := hv.2.2.2.2.2.1
      have h2 : owW u o 4 = wA u o - (wB u (dr u o 2) - wB u (dr u o 4)) := ow
      rw [h2]
      split <;> omega
  refine br_i (fun hr => br_i (fun _ => nou) fun hn2 => ?_) fun _ => ?_
  · -- inst
    obtain ⟨n'', rfl⟩ : ∃ n'', n' = n'' + 1 := ⟨n' - 1, by omega⟩
    have w := words (by omega) (by omega)
    have w1 : wB u (dr u o 1) = wA u (el u o 1) + wB u (dr u o 2) := wB_dr hT hl (i := 1) (by omega)
    have r1 := IsL.elr hT hl 1 (by omega)
    have q1 := w_pos hT r1.1 r1.2
    have w2 := wB_drp hT hl (i := 2) (by omega)
    have d1 := dr_r hT hl (i := 1) (by omega)
    have d2 := dr_r hT hl (i := 2) (by omega)
    have ow := own 2 1 (by unfold pFr; rw [hr]; decide) (by unfold pTo; rw [hr]; rfl)
    refine bd_i o0 (by omega) (rd_i fun _ => bd_i d1.1 (show dr u o 1 < 452000 by omega) (rd_i fun _ => ?_))
    refine g_arePairs hG d2.1 d2.2 (by show wB u (dr u o 2) ≤ _; omega) (by show _ + wB u (dr u o 2) < _; omega) fun b v hb hv _ hbb => br_i (fun _ => no v _ _ (rf.gp hT hv) (by show 0 + wB u (dr u o 2) ≤ _; omega) (by omega)) fun hz => zt_1 (hq 1 v (Or.inr rfl) ((rf.gp hT hv).mono (by show 0 + wB u (dr u o 2) ≤ _; omega) (by omega)) (fun _ => ⟨n'' + 1 + 1, (rf.gp hT hv).form hT hC ⟨by omega, hl, ?_⟩, ?_⟩))
    · obtain ⟨m, q3⟩ := hbb hz
      exact Or.inr (Or.inr (Or.inr (Or.inr (Or.inr (Or.inr (Or.inr (Or.inr (Or.inl ⟨hr, by omega, m, q3⟩))))))))
    · have h1 : v.1 8 ≤ u.1 8 + wB u (dr u o 2) := hv.2.2.2.2.2.1
      rw [ow]
      split <;> omega
  have pos : ∀ (k f : Nat), pFr (u.2.1 0 o) = f → pTo (u.2.1 0 o) (n' + 1) = k → k ≤ n' + 1 → f ≤ n' + 1 → 27 ≤ u.2.1 0 o → u.2.1 0 o ≤ 43 → 0 ≤ owW u o (n' + 1) := fun k f h1 h2 h3 h4 h5 h6 => by
    have a := own k f h1 h2
    have b := wB_dle hT hl f h4
    have c := wB_drp hT hl h3
    omega
  refine br_i (fun hr => br_i (fun _ => nou) fun hn2 => ?_) fun _ => ?_
  · -- swap
    have := pos 2 1 (by unfold pFr; rw [hr]; decide) (by unfold pTo; rw [hr]; rfl) (by omega) (by omega) (by omega) (by omega)
    refine zt_1 (hq 1 u (Or.inr rfl) (rf.mono (by omega) (by omega)) (fun _ => ⟨n' + 1, rf.form hT hC ⟨by omega, hl, Or.inr (Or.inr (Or.inr (Or.inr (Or.inr (Or.inr (Or.inr (Or.inr (Or.inr (Or.inl ⟨hr, by omega⟩)))))))))⟩, ?_⟩))
    split <;> omega
  refine br_i (fun hr => br_i (fun _ => nou) fun hn2 => ?_) fun _ => nou
  · -- put
    have := pos 3 1 (by unfold pFr; rw [hr]; decide) (by unfold pTo; rw [hr]; rfl) (by omega) (by omega) (by omega) (by omega)
    refine zt_1 (hq 1 u (Or.inr rfl) (rf.mono (by omega) (by omega)) (fun _ => ⟨n' + 1, rf.form hT hC ⟨by omega, hl, Or.inr (Or.inr (Or.inr (Or.inr (Or.inr (Or.inr (Or.inr (Or.inr (Or.inr (Or.inr (Or.inl ⟨hr, by omega⟩))))))))))⟩, ?_⟩))
    split <;> omega
