-- deps: 498
/-- the clauses to prove, in their order -/
def clsL [DecidableEq Ob] (u : iST) : List Sp.Cla := (List.range (u.1 117).toNat).map (fun i : Nat => cl7 u (i : Int))
theorem p_prove [DecidableEq Ob] {Q : Int → iST → Prop} {u : iST} {E : Sp.Env} (hT : TI u) (hU : TU u) (hE : EnvS u E) (h71 : 0 ≤ u.1 71) (h64 : u.1 64 = 0) (h61 : u.1 61 = 0) (r0 : 0 ≤ u.1 117) (hC : ∀ id, 0 ≤ id → id < u.1 117 → ClOk u E id) {s : Sp.Wk} (hS : StL u s)
    (hok : ∀ w s' r, Sp.PvEnd E (clsL u, [], s) (some (lfL w), s') → GZ f7Y u w → w.1 71 = u.1 71 → w.1 64 = 0 → w.1 61 = 0 → StL w s' → w.1 62 = r → r = (if w.1 63 = 0 then 1 else 0) → 0 ≤ w.1 63 → (∀ i, 0 ≤ i → i < w.1 63 → GdC w E (w.2.1 120 i)) → w.1 109 = 0 → Q r w)
    (hbad : ∀ w s', Sp.PvEnd E (clsL u, [], s) (none, s') → GZ f7Y u w → w.1 64 = 0 → w.1 61 ≠ 0 → StL w s' → w.1 62 = 0 → Q 0 w) : pw_prove Q u := by
  have end' : ∀ (v : iST), GZ f7Z u v → ∀ (y : Int), (∀ w, GZ f7Y u w → (∀ k, k ≠ 62 → k ≠ 109 → w.1 k = v.1 k) → w.1 109 = 0 → w.2 = v.2 → w.1 62 = y → bz y → Q y w) → ∀ t, t = iI v 109 0 → pw_prove_155 Q y t := by
    intro v gv y hq t et
    unfold pw_prove_155
    intro _ w ew z ez hz _
    have hz' : z = y := by rw [ez, ew]; rfl
    rw [hz'] at hz ⊢
    have g1 : GZ f7Z v t := by rw [et]; exact GZ_eq (GZ.rf gv.1 gv.2.1) (fun k hk => ⟨if_neg (by omega), rfl⟩) rfl (Fx_I (by decide))
    have g2 : GZ f7Y t w := by rw [ew]; exact GZ_eq (GZ.rf g1.1 g1.2.1) (fun k hk => ⟨if_neg (by omega), rfl⟩) rfl (Fx_I (by decide))
    refine hq w (((gv.tr g1).mono f7Z_Y).tr g2) (fun k a b => ?_) (by rw [ew, et]; rfl) (by rw [ew, et]; rfl) (by rw [ew]; rfl) hz
    rw [ew, et]
    exact (if_neg a).trans (if_neg b)
  unfold pw_prove
  intro w ew x ex _ _
  have gw : GZ f7Z u w := by rw [ew]; exact GZ_eq (GZ.rf hT hU) (fun k hk => ⟨if_neg (by omega), rfl⟩) rfl (Fx_I (by decide))
  have wn : ∀ k, k ≠ 119 → w.1 k = u.1 k := fun k hk => by rw [ew]; exact if_neg hk
  have w119 : w.1 119 = 0 := by rw [ew]; rfl
  have wr : w.2 = u.2 := by rw [ew]; rfl
  clear ew
  rw [wn 117 (by decide)] at ex
  rw [ex]
  refine pw_prove_12_i (fun x1 v => ∃ n : Nat, x1 = u.1 117 - 1 - (n : Int) ∧ (n : Int) ≤ u.1 117 ∧ GZ f7Z u v ∧ (∀ k, k ≠ 119 → v.1 k = u.1 k) ∧ v.1 119 = (n : Int) ∧ (∀ q, q ≠ 118 → v.2.1 q = u.2.1 q) ∧ ∀ i, 0 ≤ i → i < (n : Int) → v.2.1 118 i = u.1 117 - 1 - i) ?_ ⟨0, by omega, by omega, gw, wn, w119, fun _ _ => by rw [wr], fun i a b => by omega⟩
  intro x1 v hI
  obtain ⟨n, e1, hn, gv, vn, v119, vq, v118⟩ := hI
  rw [e1]
  unfold pw_prove_12b
  refine ⟨fun hc => ?_, fun hc => ?_⟩
  · have en : (n : Int) = u.1 117 := by omega
    intro t et
    have gt : GZ f7Z v t := by rw [et]; exact GZ_eq (GZ.rf gv.1 gv.2.1) (fun k hk => ⟨if_neg (by omega), rfl⟩) rfl (Fx_I (by decide))
    have tn : ∀ k, k ≠ 119 → k ≠ 63 → t.1 k = u.1 k := fun k a b => by rw [et]; exact (if_neg b).trans (vn k a)
    have t63 : t.1 63 = 0 := by rw [et]; rfl
    have t119 : t.1 119 = u.1 117 := by rw [et]; show v.1 119 = _; rw [v119, en]
    have tr : t.2 = v.2 := by rw [et]; rfl
    clear et
    have gut := gv.tr gt
    have same := fun id' (hg : GdC u E id') => kp_same (E := E) hT gut (tn 117 (by decide) (by decide)) (by rw [tr, vq 114 (by decide)]) (by rw [tr, vq 115 (by decide)]) (by rw [tr, vq 116 (by decide)]) id' hg
    have o118 : ∀ i, 0 ≤ i → i < u.1 117 → t.2.1 118 i = u.1 117 - 1 - i := fun i a b => by rw [tr]; exact v118 i a (by omega)
    have hP : PvI t E := by
      refine ⟨by omega, by omega, fun i i0 i1 => ?_, fun i i0 i1 => by omega, fun i j i0 i1 i2 => ?_, fun i j _ _ _ j1 => by omega⟩
      · rw [o118 i i0 (by omega)]
        exact (same _ ⟨by omega, by omega, hC _ (by omega) (by omega)⟩).1
      · rw [o118 i i0 (by omega), o118 j (by omega) (by omega)]; omega
    have hw : wtL t = clsL u := by
      unfold wtL clsL
      rw [t119]
      refine List.map_congr_left (fun i hi => ?_)
      have hi := List.mem_range.mp hi
      rw [o118 _ (by omega) (by omega), show u.1 117 - 1 - (u.1 117 - 1 - (i : Int)) = (i : Int) by omega]
      exact (same _ ⟨by omega, by omega, hC _ (by omega) (by omega)⟩).2
    have hlf : lfL t = [] := by unfold lfL; rw [t63]; rfl
    refine pv_loop (p0 := (clsL u, [], s)) hT hE h71 (fun v2 s' g2 v71 v64 v61 vP vS hend => ?_) (fun v2 s' g2 v64 v61 vS hend => ?_) t (Or.inl ⟨gut, tn 71 (by decide) (by decide), by rw [tn 64 (by decide) (by decide)]; exact h64, by rw [tn 61 (by decide) (by decide)]; exact h61, hP, s, by unfold StL; rw [tn 60 (by decide) (by decide), tn 59 (by decide) (by decide)]; exact hS, fun r hr => by rw [hw, hlf] at hr; exact hr⟩)
    · unfold pw_prove_130
      intro t2 et2 y ey _
      have y61 : y = 0 := by rw [ey, et2]; exact v61
      rw [y61]
      refine ⟨fun z => absurd rfl z, fun _ => ?_⟩
      intro y2 ey2 _
      have y63 : y2 = v2.1 63 := by rw [ey2, et2]; rfl
      rw [y63]
      have fin : ∀ r, r = (if v2.1 63 = 0 then 1 else 0) → ∀ w2, GZ f7Y u w2 → (∀ k, k ≠ 62 → k ≠ 109 → w2.1 k = v2.1 k) → w2.1 109 = 0 → w2.2 = v2.2 → w2.1 62 = r → bz r → Q r w2 := by
        intro r hr w2 gw2 hwn h109 hw2 h62 _
        have eo : ∀ j, ob w2 j = ob v2 j := ob_same (by rw [hw2]) (by rw [hw2]) (by rw [hw2]) (by rw [hw2]) (by rw [hw2])
        have ecl : ∀ id', cl7 w2 id' = cl7 v2 id' := fun id' => by
          unfold cl7 lits
          rw [hw2]
          exact congrArg (fun l => (l, (v2.2.1 116 id').toNat)) (ls_congr (fun i _ => eo _))
        have elf : lfL w2 = lfL v2 := by
          unfold lfL
          rw [hwn 63 (by decide) (by decide), hw2]
          exact List.map_congr_left (fun i _ => ecl _)
        have gd : ∀ id', GdC v2 E id' → GdC w2 E id' := fun id' hg => by
          obtain ⟨q0, q1, q2, q3, q4, q5⟩ := hg
          refine ⟨q0, by rw [hwn 117 (by decide) (by decide)]; exact q1, by rw [hw2]; exact q2, by rw [hw2]; exact q3, by rw [hw2]; exact q4, fun i i0 i1 => ?_⟩
          rw [hw2] at i1 ⊢
          obtain ⟨n0, n1, n2, n3⟩ := q5 i i0 i1
          have g22 : GZ f7Y v2 w2 := by
            refine GZ_eq (GZ.rf g2.1 g2.2.1) (fun k hk => ⟨hwn k (by omega) (by omega), by rw [hw2]⟩) (by rw [hw2]) (fun k hk => ⟨hwn k (fun e => by rw [e] at hk; revert hk; decide) (fun e => by rw [e] at hk; revert hk; decide), by rw [hw2]⟩)
          exact (Nd.mono ⟨n0, n1, n2, n3⟩ g2.1 g22).1
        refine hok w2 s' r (by rw [elf]; exact hend) gw2 ((hwn 71 (by decide) (by decide)).trans v71) ((hwn 64 (by decide) (by decide)).trans v64) ((hwn 61 (by decide) (by decide)).trans v61) (by unfold StL; rw [hwn 60 (by decide) (by decide), hwn 59 (by decide) (by decide)]; exact vS) h62 (by rw [hwn 63 (by decide) (by decide)]; exact hr) (by rw [hwn 63 (by decide) (by decide)]; exact vP.2.1) (fun i i0 i1 => ?_) h109
        rw [hwn 63 (by decide) (by decide)] at i1
        rw [hw2]
        exact gd _ (vP.2.2.2.1 i i0 i1)
      refine ⟨fun hz => ?_, fun hz => ?_⟩
      · unfold pw_prove_154
        exact end' v2 g2 0 (fin 0 (by rw [if_neg hz])) t2 et2
      · exact end' v2 g2 1 (fin 1 (by rw [if_pos (Decidable.not_not.mp hz)])) t2 et2
    · unfold pw_prove_130
      intro t2 et2 y ey _
      have y61 : y ≠ 0 := by rw [ey, et2]; exact v61
      refine ⟨fun _ => ?_, fun z => absurd y61 z⟩
      unfold pw_prove_154
      refine end' v2 g2 0 (fun w2 gw2 hwn h109 hw2 h62 _ => ?_) t2 et2
      refine hbad w2 s' hend gw2 (by rw [hwn 64 (by decide) (by decide)]; exact v64) (by rw [hwn 61 (by decide) (by decide)]; exact v61) (by unfold StL; rw [hwn 60 (by decide) (by decide), hwn 59 (by decide) (by decide)]; exact vS) h62
  · intro y ey _ _ _ w1 e1 z ez _ _ w2 e2 _
    rw [v119] at ey
    rw [ey] at e1
    have hz : z = (n : Int) := by rw [ez, e1]; exact v119
    rw [hz] at e2
    have g2 : GZ f7Z v w2 := by
      rw [e2, e1]
      exact GZ_eq (GZ.rf gv.1 gv.2.1) (fun k hk => ⟨if_neg (by omega), if_neg (by omega)⟩) rfl ((Fx_A (by decide)).tr (Fx_I (by decide)))
    refine ⟨n + 1, by omega, by omega, gv.tr g2, fun k hk => by rw [e2, e1]; exact (if_neg hk).trans (vn k hk), by rw [e2]; show (n : Int) + 1 = _; omega, fun q hq => by rw [e2, e1]; exact (if_neg hq).trans (vq q hq), fun i i0 i1 => ?_⟩
    have r118 : w2.2.1 118 i = if i = (n : Int) then u.1 117 - 1 - (n : Int) else v.2.1 118 i := by rw [e2, e1]; rfl
    rw [r118]
    by_cases c : i = (n : Int)
    · rw [if_pos c, c]
    · rw [if_neg c]; exact v118 i i0 (by omega)
