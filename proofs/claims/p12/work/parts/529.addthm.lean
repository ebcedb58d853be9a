-- deps: 528
/-! the reference: a theorem is taken -/
theorem RuO.keep [DecidableEq Ob] {v z : iST} {E : Sp.Env} {r : Int} {R : Option Sp.Rul} {n : Nat → Bool} (h : RuO v E r R) (hT : TI v) (g : GZ n v z) (eo : ∀ j, ob z j = ob v j) (hq : ∀ k, 46 ≤ k → k ≤ 53 → z.2.1 k = v.2.1 k) : RuO z E r R := by
  have q := fun k a b => hq k a b
  obtain ⟨h1, h2⟩ := h
  refine ⟨by rw [q 53 (by decide) (by decide)]; exact h1, ?_⟩
  rcases h2 with ⟨a, b⟩ | ⟨a, b, c, d, e, f, k, l⟩
  · exact Or.inl ⟨by rw [q 46 (by decide) (by decide)]; exact a, b⟩
  · refine Or.inr ⟨by rw [q 46 (by decide) (by decide)]; exact a, ?_, by rw [q 46 (by decide) (by decide)]; exact (c.mono hT g).1, by rw [q 46 (by decide) (by decide), eo]; exact d, by rw [q 47 (by decide) (by decide)]; exact (e.mono hT g).1, ⟨by rw [q 48 (by decide) (by decide)]; exact f.1, fun i i0 i1 => ?_⟩, by rw [q 46 (by decide) (by decide), q 47 (by decide) (by decide), eo, eo]; exact k, fun i i0 i1 => ?_⟩
    · rw [b, q 46 (by decide) (by decide), q 47 (by decide) (by decide), q 50 (by decide) (by decide), q 51 (by decide) (by decide), q 52 (by decide) (by decide), eo, eo]
      have : hypL z r = hypL v r := by
        unfold hypL
        rw [q 48 (by decide) (by decide), q 49 (by decide) (by decide)]
        exact List.map_congr_left (fun i _ => eo _)
      rw [this]
    · rw [q 48 (by decide) (by decide)] at i1
      rw [q 49 (by decide) (by decide)]; exact ((f.2 i i0 i1).mono hT g).1
    · rw [q 48 (by decide) (by decide)] at i1
      rw [q 49 (by decide) (by decide), q 46 (by decide) (by decide), eo, eo]; exact l i i0 i1
theorem p_addTheorem [DecidableEq Ob] {N F c : Int} {Q : iST → Prop} {y : iST} {H : Sp.Hs} {m : List Ob} (h : HX y H m) (bg : BgOk y) (nN : 0 ≤ N ∧ N < y.1 8 ∧ (ob y N).isName = true) (nF : Nd y (H.env m) F) (zF : (ob y F).sz ≤ 120) (hc : c ≠ 1) (fr : ∀ X, X ∈ H.2.1 → X.1 ≠ ob y N)
    (hq : ∀ v m', HX v (Sp.addThm H (ob y N) (ob y F) c) m' → v.1 54 = y.1 54 + 1 → (∀ k, 59 ≤ k → k ≤ 64 → v.1 k = y.1 k) → v.2.1 12 = y.2.1 12 → Q v) : pw_addTheorem N F c Q y := by
  have hT := h.1
  have hU := h.2.1
  have hTk := h.2.2.1.2.2.2
  -- the new name is not muted
  have hm : MuR y (m.filter (fun x => decide (x ≠ ob y N))) := by
    intro r r0 r1
    rw [hTk.2.2.2 r r0 r1, Ob.has_iff, Ob.has_iff, List.mem_filter]
    have hne : ob y (y.2.1 43 r) ≠ ob y N := by
      refine fr (thm1 y r) ?_
      have e1 : H.2.1 = thmsL y := hTk.1
      rw [e1]
      unfold thmsL
      exact List.mem_map.mpr ⟨r.toNat, List.mem_range.mpr (by omega), by rw [show ((r.toNat : Nat) : Int) = r by omega]⟩
    exact ⟨fun z => ⟨z, decide_eq_true hne⟩, fun z => z.1⟩
  have h' : HX y H (m.filter (fun x => decide (x ≠ ob y N))) := h.hint (GZ.rf hT hU) hm
  have nm : Ob.has (m.filter (fun x => decide (x ≠ ob y N))) (ob y N) = false := by
    cases e : Ob.has (m.filter (fun x => decide (x ≠ ob y N))) (ob y N) with
    | false => rfl
    | true =>
      have := (List.mem_filter.mp (Ob.has_iff.mp e)).2
      exact absurd rfl (of_decide_eq_true this)
  have nF' : Nd y (H.env (m.filter (fun x => decide (x ≠ ob y N)))) F := nF
  generalize m.filter (fun x => decide (x ≠ ob y N)) = m' at h' nm nF'
  have t0 := hTk.2.1
  unfold pw_addTheorem
  intro a ea _ _ _ t1 e1 b eb _ _ _ t2 e2 d ed _ _ _ t3 e3 r er _
  have hb : b = y.1 42 := by rw [eb, e1]; rfl
  have hd : d = y.1 42 := by rw [ed, e2, e1]; rfl
  have hr : r = y.1 42 := by rw [er, e3, e2, e1]; rfl
  rw [ea] at e1
  rw [hb] at e2
  rw [hd] at e3
  have n3 : t3.1 = y.1 := by rw [e3, e2, e1]; rfl
  have r43 : ∀ i, t3.2.1 43 i = if i = y.1 42 then N else y.2.1 43 i := fun i => by rw [e3, e2, e1]; rfl
  have r44 : ∀ i, t3.2.1 44 i = if i = y.1 42 then F else y.2.1 44 i := fun i => by rw [e3, e2, e1]; rfl
  have r45 : ∀ i, t3.2.1 45 i = if i = y.1 42 then c else y.2.1 45 i := fun i => by rw [e3, e2, e1]; rfl
  have r3 : ∀ k, k ≠ 43 → k ≠ 44 → k ≠ 45 → t3.2.1 k = y.2.1 k := fun k x1 x2 x3 => by rw [e3, e2, e1]; exact (if_neg x3).trans ((if_neg x2).trans (if_neg x1))
  have L3 : t3.2.2 = y.2.2 := by rw [e3, e2, e1]; rfl
  clear e1 e2 e3 ea eb ed er
  rw [hr]
  have g3 : GZ (fun _ => true) y t3 := GZ_eq (GZ.rf hT hU) (fun k hk => ⟨by rw [n3], r3 k (by omega) (by omega) (by omega)⟩) L3 (fun k z => by cases z)
  have eo3 : ∀ j, ob t3 j = ob y j := ob_same (r3 0 (by decide) (by decide) (by decide)) (r3 1 (by decide) (by decide) (by decide)) (r3 9 (by decide) (by decide) (by decide)) (r3 10 (by decide) (by decide) (by decide)) L3
  refine p_ruleOf (E := H.env m') g3.1 g3.2.1 (nF'.mono hT g3).1 (fun v kv rv => ?_)
  rw [eo3] at rv
  intro x ex _ _ w ew
  have qU : ∀ k, k ≠ 75 → k ≠ 76 → k ≠ 77 → k ≠ 78 → ¬ (46 ≤ k ∧ k ≤ 53) → ¬ (105 ≤ k ∧ k ≤ 113) → v.1 k = t3.1 k ∧ v.2.1 k = t3.2.1 k := fun k a1 a2 a3 a4 a5 a6 => kv.1.2.2.2.2 k (by unfold f7U f7A f7X; simp only [Bool.or_eq_false_iff, decide_eq_false_iff_not]; omega)
  have vn : ∀ k, k ≠ 75 → k ≠ 76 → k ≠ 77 → k ≠ 78 → ¬ (46 ≤ k ∧ k ≤ 53) → ¬ (105 ≤ k ∧ k ≤ 113) → v.1 k = y.1 k := fun k a1 a2 a3 a4 a5 a6 => by rw [(qU k a1 a2 a3 a4 a5 a6).1, n3]
  have hx : x = y.1 42 := by rw [ex]; exact vn 42 (by decide) (by decide) (by decide) (by decide) (by decide) (by decide)
  rw [hx] at ew
  have wn : ∀ k, k ≠ 42 → w.1 k = v.1 k := fun k hk => by rw [ew]; exact if_neg hk
  have w42 : w.1 42 = y.1 42 + 1 := by rw [ew]; rfl
  have w2 : w.2 = v.2 := by rw [ew]; rfl
  clear ew ex
  refine p_take (by rw [wn 54 (by decide), vn 54 (by decide) (by decide) (by decide) (by decide) (by decide) (by decide)]; exact h.2.2.2.2.2.1) (fun z zn z54 zr z55 z56 zL => ?_)
  have w54 : w.1 54 = y.1 54 := by rw [wn 54 (by decide), vn 54 (by decide) (by decide) (by decide) (by decide) (by decide) (by decide)]
  have w132 : w.1 132 = y.1 132 := by rw [wn 132 (by decide), vn 132 (by decide) (by decide) (by decide) (by decide) (by decide) (by decide)]
  have w55 : w.2.1 55 = y.2.1 55 := by rw [w2, (qU 55 (by decide) (by decide) (by decide) (by decide) (by decide) (by decide)).2, r3 55 (by decide) (by decide) (by decide)]
  have w56 : w.2.1 56 = y.2.1 56 := by rw [w2, (qU 56 (by decide) (by decide) (by decide) (by decide) (by decide) (by decide)).2, r3 56 (by decide) (by decide) (by decide)]
  rw [w54] at z54 z55 z56
  rw [w55] at z55
  rw [w56, w132] at z56
  have gvw : GZ (fun _ => true) v w := GZ_eq (GZ.rf kv.1.1 kv.1.2.1) (fun k hk => ⟨wn k (by omega), by rw [w2]⟩) (by rw [w2]) (fun k q => by cases q)
  have gwz : GZ (fun _ => true) w z := GZ_eq (GZ.rf gvw.1 gvw.2.1) (fun k hk => ⟨zn k (by omega), zr k (by omega) (by omega)⟩) zL (fun k q => by cases q)
  have gvz := gvw.tr gwz
  have gyz : GZ (fun _ => true) y z := (g3.tr (kv.1.mono (fun k q => by cases q))).tr gvz
  have eoz : ∀ j, ob z j = ob v j := ob_same (by rw [zr 0 (by decide) (by decide), w2]) (by rw [zr 1 (by decide) (by decide), w2]) (by rw [zr 9 (by decide) (by decide), w2]) (by rw [zr 10 (by decide) (by decide), w2]) (by rw [zL, w2])
  have zv : ∀ k, k ≠ 55 → k ≠ 56 → z.2.1 k = v.2.1 k := fun k a1 a2 => by rw [zr k a1 a2, w2]
  have znn : ∀ k, k ≠ 54 → k ≠ 42 → k ≠ 75 → k ≠ 76 → k ≠ 77 → k ≠ 78 → ¬ (46 ≤ k ∧ k ≤ 53) → ¬ (105 ≤ k ∧ k ≤ 113) → z.1 k = y.1 k := fun k b1 b2 a1 a2 a3 a4 a5 a6 => by rw [zn k b1, wn k b2, vn k a1 a2 a3 a4 a5 a6]
  refine hq z m' (HX_thm (N := N) (F := F) (c := c) h' bg gyz ?_ ?_ ?_ ?_ ?_ ?_ ?_ nN nF' zF ?_ ?_ ?_ hc ?_ nm fr z54 z55 z56) z54 (fun k a1 a2 => znn k (by omega) (by omega) (by omega) (by omega) (by omega) (by omega) (by omega) (by omega)) (by rw [zv 12 (by decide) (by decide), (qU 12 (by decide) (by decide) (by decide) (by decide) (by decide) (by decide)).2, r3 12 (by decide) (by decide) (by decide)])
  · exact znn 8 (by decide) (by decide) (by decide) (by decide) (by decide) (by decide) (by decide) (by decide)
  · rw [znn 57 (by decide) (by decide) (by decide) (by decide) (by decide) (by decide) (by decide) (by decide)]; exact h.2.2.1.2.1
  · exact znn 35 (by decide) (by decide) (by decide) (by decide) (by decide) (by decide) (by decide) (by decide)
  · intro k a1 a2
    rw [zv k (by omega) (by omega), (qU k (by omega) (by omega) (by omega) (by omega) (by omega) (by omega)).2, r3 k (by omega) (by omega) (by omega)]
  · rw [zn 42 (by decide), w42]
  · intro k d' a1 a2 a3 d0 d1
    rw [zv k (by omega) (by omega)]
    by_cases c1 : 46 ≤ k
    · rw [kv.2.1 k d' c1 a2 a3 (by omega), r3 k (by omega) (by omega) (by omega)]
    · rw [(qU k (by omega) (by omega) (by omega) (by omega) (by omega) (by omega)).2]
      have : k = 43 ∨ k = 44 ∨ k = 45 := by omega
      rcases this with q | q | q <;> rw [q]
      · rw [r43, if_neg (by omega)]
      · rw [r44, if_neg (by omega)]
      · rw [r45, if_neg (by omega)]
  · intro i hi
    rw [zv 49 (by decide) (by decide), kv.2.2 i hi, r3 49 (by decide) (by decide) (by decide)]
  · rw [zv 43 (by decide) (by decide), (qU 43 (by decide) (by decide) (by decide) (by decide) (by decide) (by decide)).2, r43, if_pos rfl]
  · rw [zv 44 (by decide) (by decide), (qU 44 (by decide) (by decide) (by decide) (by decide) (by decide) (by decide)).2, r44, if_pos rfl]
  · rw [zv 45 (by decide) (by decide), (qU 45 (by decide) (by decide) (by decide) (by decide) (by decide) (by decide)).2, r45, if_pos rfl]
  · exact rv.keep kv.1.1 gvz eoz (fun k a1 a2 => zv k (by omega) (by omega))
/-! what the specification says of prove and defthm -/
def Sp.RanT [DecidableEq Ob] (k : Nat) (H : Sp.Hs) (fuel : Nat) (o : Ob) (r : Sp.Res) : Prop :=
    (match (if (k : Int) < Ob.len o ∧ (k = 2 → Ob.isName (Ob.item o 1)) ∧ Sp.hintsAsk (H.env []) ((Ob.toList o).drop (k + 1)) ≠ 2 then Sp.rdAt (H.env []) o k else none) with
     | some F => if Sp.hintsAsk (H.env []) ((Ob.toList o).drop (k + 1)) = 3 ∨ k = 2 ∧ ((Sp.Env.thmOf (H.env []) (Ob.item o 1)).isSome ∨ H.2.1.length = 60) then r = Sp.nothing H
        else Sp.Proves (H.env (Sp.offsOf ((Ob.toList o).drop (k + 1)))) H (if k = 2 then Sp.addThm H (Ob.item o 1) F 2 else H) fuel (Sp.thmCl (H.env []) F (Sp.indOf (H.env []) ((Ob.toList o).drop (k + 1))) (Sp.usesOf (H.env []) ((Ob.toList o).drop (k + 1)))) r
     | none => r = Sp.nothing H)
theorem Ran_prove [DecidableEq Ob] {H : Sp.Hs} {fuel : Nat} {o : Ob} {r : Sp.Res} (h : Ob.lft o = Ob.prove) (hr : Sp.RanT 1 H fuel o r) : Sp.Ran H fuel o r := by
  unfold Sp.Ran
  rw [if_neg (by rw [h]; exact Ob.sym_ne (by decide)), if_neg (by rw [h]; exact Ob.sym_ne (by decide)), if_pos (Or.inl h)]
  have e : (if Ob.lft o = Ob.defthm then 2 else 1) = 1 := if_neg (by rw [h]; exact Ob.sym_ne (by decide))
  simp only [e]
  exact hr
theorem Ran_defthm [DecidableEq Ob] {H : Sp.Hs} {fuel : Nat} {o : Ob} {r : Sp.Res} (h : Ob.lft o = Ob.defthm) (hr : Sp.RanT 2 H fuel o r) : Sp.Ran H fuel o r := by
  unfold Sp.Ran
  rw [if_neg (by rw [h]; exact Ob.sym_ne (by decide)), if_neg (by rw [h]; exact Ob.sym_ne (by decide)), if_pos (Or.inr h)]
  have e : (if Ob.lft o = Ob.defthm then 2 else 1) = 2 := if_pos h
  rw [e]
  exact hr
theorem RanT_1 [DecidableEq Ob] {k : Nat} {H : Sp.Hs} {fuel : Nat} {o : Ob} (h : ¬ ((k : Int) < Ob.len o ∧ (k = 2 → Ob.isName (Ob.item o 1) = true) ∧ Sp.hintsAsk (H.env []) ((Ob.toList o).drop (k + 1)) ≠ 2)) : Sp.RanT k H fuel o (Sp.nothing H) := by
  unfold Sp.RanT
  rw [if_neg h]
theorem RanT_2 [DecidableEq Ob] {k : Nat} {H : Sp.Hs} {fuel : Nat} {o : Ob} (h : Sp.rdAt (H.env []) o k = none) : Sp.RanT k H fuel o (Sp.nothing H) := by
  unfold Sp.RanT
  split
  · next B e =>
    split at e
    · rw [h] at e; cases e
    · cases e
  · rfl
theorem RanT_3 [DecidableEq Ob] {k : Nat} {H : Sp.Hs} {fuel : Nat} {o F : Ob} {r : Sp.Res} (h : (k : Int) < Ob.len o ∧ (k = 2 → Ob.isName (Ob.item o 1) = true) ∧ Sp.hintsAsk (H.env []) ((Ob.toList o).drop (k + 1)) ≠ 2) (hF : Sp.rdAt (H.env []) o k = some F) :
    ((Sp.hintsAsk (H.env []) ((Ob.toList o).drop (k + 1)) = 3 ∨ k = 2 ∧ ((Sp.Env.thmOf (H.env []) (Ob.item o 1)).isSome = true ∨ H.2.1.length = 60)) → r = Sp.nothing H → Sp.RanT k H fuel o r) ∧ (¬ (Sp.hintsAsk (H.env []) ((Ob.toList o).drop (k + 1)) = 3 ∨ k = 2 ∧ ((Sp.Env.thmOf (H.env []) (Ob.item o 1)).isSome = true ∨ H.2.1.length = 60)) → Sp.Proves (H.env (Sp.offsOf ((Ob.toList o).drop (k + 1)))) H (if k = 2 then Sp.addThm H (Ob.item o 1) F 2 else H) fuel (Sp.thmCl (H.env []) F (Sp.indOf (H.env []) ((Ob.toList o).drop (k + 1))) (Sp.usesOf (H.env []) ((Ob.toList o).drop (k + 1)))) r → Sp.RanT k H fuel o r) := by
  refine ⟨fun a b => ?_, fun a b => ?_⟩
  · unfold Sp.RanT
    rw [if_pos h, hF]
    show (if _ then _ else _)
    rw [if_pos a]; exact b
  · unfold Sp.RanT
    rw [if_pos h, hF]
    show (if _ then _ else _)
    rw [if_neg a]; exact b
/-- no list in it is longer than a text -/
def Ob.lenA [DecidableEq Ob] : Ob → Prop | .op a b => Ob.len (.op a b) ≤ 1000 ∧ Ob.lenA a ∧ Ob.lenA b | .var _ => True
theorem lenA_len [DecidableEq Ob] {o : Ob} (h : Ob.lenA o) : o.len ≤ 1000 := by
  cases o with
  | var x => rw [Ob.len_var]; split <;> omega
  | op a b => exact h.1
theorem lenA_rgt [DecidableEq Ob] {o : Ob} (h : Ob.lenA o) : Ob.lenA (Ob.rgt o) := by
  cases o with
  | var x => trivial
  | op a b => exact h.2.2
theorem lenA_item [DecidableEq Ob] : ∀ (o : Ob) (i : Nat), Ob.lenA o → Ob.lenA (Ob.item o i)
  | .var _, _, _ => trivial
  | .op a b, 0, h => h.2.1
  | .op a b, i + 1, h => lenA_item b i h.2.2
theorem lenA_mem [DecidableEq Ob] : ∀ (o x : Ob), Ob.lenA o → x ∈ Ob.toList o → Ob.lenA x
  | .var _, _, _, hx => by cases hx
  | .op a b, x, h, hx => by
    rcases List.mem_cons.mp hx with q | q
    · rw [q]; exact h.2.1
    · exact lenA_mem b x h.2.2 q
theorem BgOk.hint [DecidableEq Ob] {u v : iST} (h : BgOk u) (g : GZ f7N u v) : BgOk v := by
  obtain ⟨h1, h2, h3, h4⟩ := h
  have q : ∀ k, (35 ≤ k ∧ k ≤ 60) ∧ k ≠ 53 → v.1 k = u.1 k ∧ v.2.1 k = u.2.1 k := fun k hk => g.2.2.2.2 k (f7N_mid k (by omega))
  have e132 := (g.2.2.2.2 132 (f7N_mid 132 (by decide))).1
  have e54 := (q 54 (by decide)).1
  have es : srt v = srt u := by unfold srt; rw [e54, (q 55 (by decide)).2]
  have hl := g.le
  exact ⟨by omega, by omega, fun i i0 i1 => by rw [(q 56 (by decide)).2, e132]; exact h3 i i0 (by omega), by rw [e132, e54]; exact h4.keep es (fun k a b => (q k (by omega)).2)⟩
