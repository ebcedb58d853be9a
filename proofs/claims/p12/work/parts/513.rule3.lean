-- deps: 512
theorem ru_295 [DecidableEq Ob] {x1 x4 x5 x6 x8 y2 : Int} {Q : iST → Prop} {w : iST} {e n G : Bool} (hT : TI w) (hU : TU w) (l0 : 0 ≤ x6) (l1 : x6 < w.1 8) (h4 : bq x4 e) (h5 : bq x5 n) (h8 : bq x8 G) (hq : ∀ v y3, bq y3 (G && (!e && !n && !(ob w x6).isBool)) → v = iA (iA w 50 x1 y2) 51 x1 y3 → Q v) : pw_ruleOf_295 Q x1 x4 x5 x6 x8 x1 y2 w := by
  unfold pw_ruleOf_295
  intro _ _ _ w1 ew1
  have k1 : RuK x1 w w1 := by rw [ew1]; exact RuK_A hT hU (by decide) (by decide) (by decide)
  have eo : ob w1 x6 = ob w x6 := k1.1.ob hT l0 l1
  have hl := k1.1.le
  have z0 : (G && (!e && !n && !(ob w x6).isBool)) = false → bz 0 → 0 ≤ x1 → x1 < 60 → ∀ v, v = iA w1 51 x1 0 → Q v := fun hz _ _ _ v ev => hq v 0 (bq0 hz) (by rw [ev, ew1])
  refine ⟨fun a => z0 (by rw [h8.f a]; rfl), fun a => ⟨fun b => z0 (by rw [h4.t b]; cases G <;> rfl), fun b => ⟨fun c => z0 (by rw [h5.t c, h4.f (Decidable.not_not.mp b)]; cases G <;> rfl), fun c => ?_⟩⟩⟩
  refine p_isBoolean k1.1.1 k1.1.2.1 l0 (by omega) (fun q hqb => ?_)
  rw [eo] at hqb
  refine ⟨fun d => z0 (by rw [h8.t a, h4.f (Decidable.not_not.mp b), h5.f (Decidable.not_not.mp c), hqb.t d]; rfl), fun d => ?_⟩
  intro _ _ _ v ev
  exact hq v 1 (bq1 (by rw [h8.t a, h4.f (Decidable.not_not.mp b), h5.f (Decidable.not_not.mp c), hqb.f (Decidable.not_not.mp d)]; rfl)) (by rw [ev, ew1])
theorem ru_243 [DecidableEq Ob] {x1 x4 x5 x6 x7 x8 y2 : Int} {Q : iST → Prop} {w : iST} {E : Sp.Env} {e n G : Bool} {R : Option Sp.Rul} (hT : TI w) (hU : TU w) (nl : Nd w E x6) (nr : Nd w E x7) (h4 : bq x4 e) (h5 : bq x5 n) (h8 : bq x8 G) (hy : y2 = if x8 = 0 then -1 else x6) (hH : HyOk w E x1)
    (hR : R = if G = true then some (ob w x6, ob w x7, hypL w x1, !e && !n && !(ob w x6).isBool, Sp.turns (ob w x6) (ob w x7), true) else none)
    (hG : G = true → (ob w x6).isCall = true ∧ (∀ x, vr false (ob w x7) x → vr false (ob w x6) x) ∧ ∀ i, 0 ≤ i → i < w.2.1 48 x1 → ∀ x, vr false (ob w (w.2.1 49 (120 * x1 + i))) x → vr false (ob w x6) x)
    (hq : ∀ v, RuK x1 w v → RuO v E x1 R → Q v) : pw_ruleOf_243 Q x1 x4 x5 x6 x7 x8 x1 y2 w := by
  have fin : ∀ (v : iST) (y50 y51 : Int), RuK x1 w v → v.2.1 46 x1 = y2 → v.2.1 47 x1 = x7 → v.2.1 48 = w.2.1 48 → v.2.1 49 = w.2.1 49 → v.2.1 52 x1 = x8 → v.2.1 53 x1 = 0 → v.2.1 50 x1 = y50 → v.2.1 51 x1 = y51 → (G = true → bq y50 (Sp.turns (ob w x6) (ob w x7))) → bq y51 (G && (!e && !n && !(ob w x6).isBool)) → Q v := by
    intro v y50 y51 kv v46 v47 v48 v49 v52 v53 v50 v51 t50 t51
    refine hq v kv ⟨v53, ?_⟩
    cases eg : G with
    | false =>
      rw [eg] at hR h8
      refine Or.inl ⟨by rw [v46, hy, if_pos (h8.mpr rfl)], by rw [hR]; rfl⟩
    | true =>
      rw [eg] at hR h8 t50 t51
      have x80 : x8 ≠ 0 := fun z => by have := h8.mp z; cases this
      have hy2 : y2 = x6 := by rw [hy, if_neg x80]
      obtain ⟨c1, c2, c3⟩ := hG eg
      obtain ⟨nlv, elv⟩ := nl.mono hT kv.1
      obtain ⟨nrv, erv⟩ := nr.mono hT kv.1
      have l0 := nl.1
      have hyv : ∀ i, 0 ≤ i → i < w.2.1 48 x1 → Nd v E (w.2.1 49 (120 * x1 + i)) ∧ ob v (w.2.1 49 (120 * x1 + i)) = ob w (w.2.1 49 (120 * x1 + i)) := fun i i0 i1 => (hH.2 i i0 i1).mono hT kv.1
      have b50 := t50 rfl
      have eb : ∀ (y : Int) (b : Bool), bq y b → decide (y ≠ 0) = b := fun y b hb => by
        cases b with
        | true => exact decide_eq_true (fun z => by have := hb.mp z; cases this)
        | false => exact decide_eq_false (fun z => z (hb.mpr rfl))
      refine Or.inr ⟨by rw [v46, hy2]; omega, ?_, ?_, ?_, ?_, ⟨by rw [v48]; exact hH.1, fun i i0 i1 => ?_⟩, ?_, fun i i0 i1 x hx => ?_⟩
      · rw [hR, if_pos rfl, v46, v47, hy2, elv, erv, v50, v51, v52]
        have eh : hypL v x1 = hypL w x1 := by
          rw [hypL_ls, hypL_ls, v48, v49]
          have := hH.1
          exact ls_congr (fun i hi => (hyv _ (by omega) (by omega)).2)
        rw [eh, eb y51 _ t51, eb y50 _ b50, eb x8 true h8]
        rfl
      · rw [v46, hy2]; exact nlv
      · rw [v46, hy2, elv]; exact c1
      · rw [v47]; exact nrv
      · rw [v48] at i1
        rw [v49]; exact (hyv i i0 i1).1
      · rw [v46, v47, hy2, elv, erv]; exact c2
      · rw [v48] at i1
        rw [v49, (hyv i i0 i1).2] at hx
        rw [v46, hy2, elv]; exact c3 i i0 i1 x hx
  unfold pw_ruleOf_243
  intro _ _ w1 e1 _ _ w2 e2 _ _ _ w3 e3 _ _ _ w4 e4
  have k1 : RuK x1 w w1 := by rw [e1]; exact RuK_A hT hU (by decide) (by decide) (by decide)
  have k2 : RuK x1 w1 w2 := by rw [e2]; exact RuK_A k1.1.1 k1.1.2.1 (by decide) (by decide) (by decide)
  have k3 : RuK x1 w2 w3 := by rw [e3]; exact RuK_A k2.1.1 k2.1.2.1 (by decide) (by decide) (by decide)
  have k4 : RuK x1 w3 w4 := by rw [e4]; exact RuK_A k3.1.1 k3.1.2.1 (by decide) (by decide) (by decide)
  have k := ((k1.tr k2).tr k3).tr k4
  have r46 : w4.2.1 46 x1 = y2 := by rw [e4, e3, e2, e1]; exact if_pos rfl
  have r47 : w4.2.1 47 x1 = x7 := by rw [e4, e3, e2]; exact if_pos rfl
  have r52 : w4.2.1 52 x1 = x8 := by rw [e4, e3]; exact if_pos rfl
  have r53 : w4.2.1 53 x1 = 0 := by rw [e4]; exact if_pos rfl
  have r48 : w4.2.1 48 = w.2.1 48 := by rw [e4, e3, e2, e1]; rfl
  have r49 : w4.2.1 49 = w.2.1 49 := by rw [e4, e3, e2, e1]; rfl
  clear e1 e2 e3 e4
  obtain ⟨nl4, el4⟩ := nl.mono hT k.1
  obtain ⟨nr4, er4⟩ := nr.mono hT k.1
  -- what is written behind matching
  have last : ∀ (t : iST) (y : Int), RuK x1 w4 t → (∀ m, 46 ≤ m → m ≤ 53 → t.2.1 m = w4.2.1 m) → (G = true → bq y (Sp.turns (ob w x6) (ob w x7))) → pw_ruleOf_295 Q x1 x4 x5 x6 x8 x1 y t := by
    intro t y kt hm hb
    obtain ⟨nlt, elt⟩ := nl4.mono k.1.1 kt.1
    refine ru_295 kt.1.1 kt.1.2.1 nlt.1 nlt.2.1 h4 h5 h8 (fun v y3 hy3 ev => ?_)
    rw [elt, el4] at hy3
    have ka : RuK x1 t (iA t 50 x1 y) := RuK_A kt.1.1 kt.1.2.1 (by decide) (by decide) (by decide)
    have kb : RuK x1 (iA t 50 x1 y) v := by rw [ev]; exact RuK_A ka.1.1 ka.1.2.1 (by decide) (by decide) (by decide)
    refine fin v y y3 (((k.tr kt).tr ka).tr kb) ?_ ?_ ?_ ?_ ?_ ?_ ?_ ?_ hb hy3
    · rw [ev]; show t.2.1 46 x1 = _; rw [hm 46 (by decide) (by decide)]; exact r46
    · rw [ev]; show t.2.1 47 x1 = _; rw [hm 47 (by decide) (by decide)]; exact r47
    · rw [ev]; show t.2.1 48 = _; rw [hm 48 (by decide) (by decide)]; exact r48
    · rw [ev]; show t.2.1 49 = _; rw [hm 49 (by decide) (by decide)]; exact r49
    · rw [ev]; show t.2.1 52 x1 = _; rw [hm 52 (by decide) (by decide)]; exact r52
    · rw [ev]; show t.2.1 53 x1 = _; rw [hm 53 (by decide) (by decide)]; exact r53
    · rw [ev]; exact if_pos rfl
    · rw [ev]; exact if_pos rfl
  refine ⟨fun hz => ?_, fun hz => ?_⟩
  · unfold pw_ruleOf_294
    exact last w4 0 (RuK.rf k.1.1 k.1.2.1) (fun _ _ _ => rfl) (fun z => by rw [h8.f hz] at z; cases z)
  · have tf := turns_iff (ar := Sp.arOf E) nl.2.2.2 nr.2.2.2
    have mk : ∀ t : iST, MS 0 w4 t → RuK x1 w4 t ∧ ∀ m, 46 ≤ m → m ≤ 53 → t.2.1 m = w4.2.1 m := fun t mt => by
      have hm : ∀ m, 46 ≤ m → m ≤ 53 → t.2.1 m = w4.2.1 m := fun m a b => (mt.1.2.2.2.2 m (by unfold f7X; simp only [Bool.or_eq_false_iff, decide_eq_false_iff_not]; omega)).2
      exact ⟨RuK.of (mt.1.mono f7X_U) hm, hm⟩
    refine p_matches k.1.1 k.1.2.1 nl4 nr4 (fun t mt _ hno => ?_) (fun t mt _ hB hs hk => ?_)
    · obtain ⟨a, b⟩ := mk t mt
      refine ⟨fun _ => ?_, fun z => absurd rfl z⟩
      unfold pw_ruleOf_294
      refine last t 0 a b (fun _ => bq0 ?_)
      cases et : Sp.turns (ob w x6) (ob w x7) with
      | false => rfl
      | true =>
        obtain ⟨s, g1, g2⟩ := tf.mp et
        rw [el4, er4] at hno
        exact absurd g2 (hno s g1)
    · obtain ⟨a, b⟩ := mk t mt
      refine ⟨fun z => absurd z (by decide), fun _ => last t 1 a b (fun _ => bq1 ?_)⟩
      rw [el4, er4] at hs
      rw [el4] at hk
      -- the bindings are such a way to fill it in
      refine tf.mpr ?_
      obtain ⟨b0, b1, b2, b3⟩ := hB
      have hTt := a.1.1
      have hUt := a.1.2.1
      have inj105 : ∀ i j, 0 ≤ i → i < t.2.1 107 0 → 0 ≤ j → j < t.2.1 107 0 → ob t (t.2.1 105 (130 * 0 + i)) = ob t (t.2.1 105 (130 * 0 + j)) → i = j := by
        intro i j i0 i1 j0 j1 eo
        have ni := (b1 i i0 i1).1
        have nj := (b1 j j0 j1).1
        have := (hTt.inj hUt ni.1 ni.2.1 nj.1 nj.2.1).mp eo
        rcases Int.lt_trichotomy i j with c | c | c
        · exact absurd this (b2 i j i0 c j1)
        · exact c
        · exact absurd this.symm (b2 j i j0 c i1)
      let L : List (Ob × Ob) := (List.range (t.2.1 107 0).toNat).map (fun i : Nat => (ob t (t.2.1 105 (130 * 0 + (i : Int))), ob t (t.2.1 106 (130 * 0 + (i : Int)))))
      have hkeys : (L.map (·.1)).Nodup := by
        refine List.pairwise_iff_getElem.mpr (fun i j hi hj hij => ?_)
        simp only [L, List.length_map, List.length_range] at hi hj
        simp only [L, List.getElem_map, List.getElem_range]
        intro z
        have := inj105 (i : Int) (j : Int) (by omega) (by omega) (by omega) (by omega) z
        omega
      have at' : ∀ i, 0 ≤ i → i < t.2.1 107 0 → Ob.lkD L (ob t (t.2.1 105 (130 * 0 + i))) = ob t (t.2.1 106 (130 * 0 + i)) := fun i i0 i1 => by
        have hm : (ob t (t.2.1 105 (130 * 0 + i)), ob t (t.2.1 106 (130 * 0 + i))) ∈ L := List.mem_map.mpr ⟨i.toNat, List.mem_range.mpr (by omega), by rw [show ((i.toNat : Nat) : Int) = i by omega]⟩
        unfold Ob.lkD
        rw [lk_of_mem hkeys hm]
        rfl
      have hgd : Gd 1 (ob w x6) (Ob.lkD L) := fun _ => by
        refine ⟨fun x hx => ?_, fun x y hx hy exy => ?_⟩
        · obtain ⟨i, i0, i1, ei⟩ := hk x hx
          rw [← ei, at' i i0 i1]
          exact (b1 i i0 i1).2.2.2 (by decide)
        · obtain ⟨i, i0, i1, ei⟩ := hk x hx
          obtain ⟨j, j0, j1, ej⟩ := hk y hy
          rw [← ei, ← ej, at' i i0 i1, at' j j0 j1] at exy
          have ni := (b1 i i0 i1).2.2.1
          have nj := (b1 j j0 j1).2.2.1
          have := (hTt.inj hUt ni.1 ni.2.1 nj.1 nj.2.1).mp exy
          rcases Int.lt_trichotomy i j with c | c | c
          · exact absurd this (b3 (by decide) i j i0 c j1)
          · rw [← ei, ← ej, c]
          · exact absurd this.symm (b3 (by decide) j i j0 c i1)
      exact ⟨Ob.lkD L, hgd, (hs _ hgd).mpr (fun i i0 i1 => at' i i0 i1)⟩
theorem ru_177 [DecidableEq Ob] {x1 x4 x5 x6 x7 x8 : Int} {Q : iST → Prop} {w : iST} {E : Sp.Env} {e n g0 : Bool} {R : Option Sp.Rul} (hT : TI w) (hU : TU w) (nl : Nd w E x6) (nr : Nd w E x7) (h4 : bq x4 e) (h5 : bq x5 n) (h8 : bq x8 g0) (hH : HyOk w E x1)
    (hR : R = if (g0 && (hypL w x1).all (Sp.covers (ob w x6))) = true then some (ob w x6, ob w x7, hypL w x1, !e && !n && !(ob w x6).isBool, Sp.turns (ob w x6) (ob w x7), true) else none)
    (hG : g0 = true → (ob w x6).isCall = true ∧ ∀ x, vr false (ob w x7) x → vr false (ob w x6) x)
    (hq : ∀ v, RuK x1 w v → RuO v E x1 R → Q v) : pw_ruleOf_177 Q x1 x4 x5 x6 x7 x8 0 w := by
  have h0 := hH.1
  have hlen : (hypL w x1).length = (w.2.1 48 x1).toNat := ls_len _ _ _ _
  refine pw_ruleOf_177_i (fun a1 a4 a5 a6 a7 a8 a9 v => a1 = x1 ∧ a4 = x4 ∧ a5 = x5 ∧ a6 = x6 ∧ a7 = x7 ∧ GZ f7A w v ∧ ∃ i : Nat, a9 = (i : Int) ∧ bq a8 (g0 && ((hypL w x1).take i).all (Sp.covers (ob w x6)))) ?_ ⟨rfl, rfl, rfl, rfl, rfl, GZ.rf hT hU, 0, rfl, by
    show bq x8 (g0 && true)
    rw [Bool.and_true]; exact h8⟩
  intro a1 a4 a5 a6 a7 a8 a9 v hI
  obtain ⟨e1, e4, e5, e6, e7, gv, i, e9, hb⟩ := hI
  rw [e1, e4, e5, e6, e7, e9]
  have k48 : v.2.1 48 = w.2.1 48 := (gv.2.2.2.2 48 (by decide)).2
  have k49 : v.2.1 49 = w.2.1 49 := (gv.2.2.2.2 49 (by decide)).2
  obtain ⟨nlv, elv⟩ := nl.mono hT gv
  obtain ⟨nrv, erv⟩ := nr.mono hT gv
  have hyv : ∀ j, 0 ≤ j → j < w.2.1 48 x1 → Nd v E (w.2.1 49 (120 * x1 + j)) ∧ ob v (w.2.1 49 (120 * x1 + j)) = ob w (w.2.1 49 (120 * x1 + j)) := fun j j0 j1 => (hH.2 j j0 j1).mono hT gv
  have kv : RuK x1 w v := RuK.of (gv.mono f7A_U) (fun m a b => (gv.2.2.2.2 m (by unfold f7A; simp only [decide_eq_false_iff_not]; omega)).2)
  unfold pw_ruleOf_177b
  intro _ _ z ez _
  rw [k48] at ez
  rw [ez]
  refine ⟨fun hc => ?_, fun hc => ?_⟩
  · have hfull : (hypL w x1).take i = hypL w x1 := List.take_of_length_le (by omega)
    rw [hfull] at hb
    have eh : hypL v x1 = hypL w x1 := by
      rw [hypL_ls, hypL_ls, k48, k49]
      exact ls_congr (fun j hj => (hyv _ (by omega) (by omega)).2)
    have go : ∀ y2, y2 = (if a8 = 0 then -1 else x6) → pw_ruleOf_243 Q x1 x4 x5 x6 x7 a8 x1 y2 v := by
      intro y2 hy2
      refine ru_243 (R := R) gv.1 gv.2.1 nlv nrv h4 h5 hb hy2 ⟨by rw [k48]; exact h0, fun j j0 j1 => ?_⟩ (by rw [hR, elv, erv, eh]) (fun hg => ?_) (fun t kt rt => hq t (kv.tr kt) rt)
      · rw [k48] at j1
        rw [k49]; exact (hyv j j0 j1).1
      · rw [Bool.and_eq_true] at hg
        obtain ⟨c1, c2⟩ := hG hg.1
        rw [elv, erv]
        refine ⟨c1, c2, fun j j0 j1 x hx => ?_⟩
        rw [k48] at j1
        rw [k49, (hyv j j0 j1).2] at hx
        have hm : ob w (w.2.1 49 (120 * x1 + j)) ∈ hypL w x1 := by
          rw [hypL_ls]
          exact ls_mem.mpr ⟨j.toNat, by omega, by rw [show ((j.toNat : Nat) : Int) = j by omega]⟩
        exact covers_vr (List.all_eq_true.mp hg.2 _ hm) x hx
    exact ⟨fun hz => go (-1) (by rw [if_pos hz]), fun hz => go x6 (by rw [if_neg hz])⟩
  · have hi : i < (hypL w x1).length := by omega
    have hnx : (hypL w x1).take (i + 1) = (hypL w x1).take i ++ [ob w (w.2.1 49 (120 * x1 + (i : Int)))] := by
      have hg : (hypL w x1)[i]? = some (ob w (w.2.1 49 (120 * x1 + (i : Int)))) := ls_get _ _ _ _ (by omega)
      rw [List.take_add_one, hg]; rfl
    refine ⟨fun hz _ => ⟨rfl, rfl, rfl, rfl, rfl, gv, i + 1, by omega, bq0 ?_⟩, fun hz => ?_⟩
    · rw [hnx, List.all_append, ← Bool.and_assoc, hb.f hz]; rfl
    · intro _ _ _ _ y ey _
      rw [k49] at ey
      obtain ⟨ny, eyo⟩ := hyv (i : Int) (by omega) (by omega)
      rw [← ey] at ny eyo
      refine p_covers (ar := Sp.arOf E) gv.1 gv.2.1 nlv ny (fun q t gt hq' => ?_)
      rw [elv, eyo] at hq'
      have stp : ∀ b : Int, bq b (Sp.covers (ob w x6) (ob w y)) → bq b (g0 && ((hypL w x1).take (i + 1)).all (Sp.covers (ob w x6))) := fun b hb' => by
        rw [hnx, List.all_append, ← Bool.and_assoc, hb.t hz, Bool.true_and]
        show bq b (Sp.covers (ob w x6) (ob w (w.2.1 49 (120 * x1 + (i : Int)))) && true)
        rw [Bool.and_true, ← ey]; exact hb'
      exact ⟨fun hd _ => ⟨rfl, rfl, rfl, rfl, rfl, gv.tr gt, i + 1, by omega, stp 0 (bq0 (hq'.f hd))⟩, fun hd _ => ⟨rfl, rfl, rfl, rfl, rfl, gv.tr gt, i + 1, by omega, stp 1 (bq1 (hq'.t hd))⟩⟩
