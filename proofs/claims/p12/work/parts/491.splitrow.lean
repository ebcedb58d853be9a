-- deps: 490
def f7R (k : Nat) : Bool := f7M k || decide (114 ≤ k ∧ k ≤ 117) || decide (121 ≤ k ∧ k ≤ 122)
theorem f7C_R [DecidableEq Ob] : ∀ k, f7R k = false → f7C k = false := by
  intro k h
  unfold f7R at h
  unfold f7C
  rw [Bool.or_eq_false_iff] at h
  exact h.1
theorem f7M_R [DecidableEq Ob] : ∀ k, f7R k = false → f7M k = false := fun k h => f7M_C k (f7C_R k h)
theorem f7D_R [DecidableEq Ob] : ∀ k, f7R k = false → f7D k = false := by
  intro k h
  unfold f7R at h
  unfold f7D
  rw [Bool.or_eq_false_iff] at h
  exact h.2
/-- clauses below n are as they were -/
def RwN [DecidableEq Ob] (n : Int) (u v : iST) : Prop := GZ f7R u v ∧ v.1 71 = u.1 71 ∧ (∀ id, id < n → v.2.1 115 id = u.2.1 115 id ∧ v.2.1 116 id = u.2.1 116 id) ∧ ∀ i, i < 30 * n → v.2.1 114 i = u.2.1 114 i
theorem RwN.tr [DecidableEq Ob] {n : Int} {u v w : iST} (h : RwN n u v) (g : RwN n v w) : RwN n u w :=
  ⟨h.1.tr g.1, g.2.1.trans h.2.1, fun id hi => ⟨(g.2.2.1 id hi).1.trans (h.2.2.1 id hi).1, (g.2.2.1 id hi).2.trans (h.2.2.1 id hi).2⟩, fun i hi => (g.2.2.2 i hi).trans (h.2.2.2 i hi)⟩
theorem RwN.mono [DecidableEq Ob] {n m : Int} {u v : iST} (h : RwN n u v) (hm : m ≤ n) : RwN m u v := ⟨h.1, h.2.1, fun id hi => h.2.2.1 id (by omega), fun i hi => h.2.2.2 i (by omega)⟩
theorem RwN.cl [DecidableEq Ob] {n id : Int} {u v : iST} {E : Sp.Env} (h : RwN n u v) (hT : TI u) (hi : id < n) (hC : ClOk u E id) : ClOk v E id ∧ lits v id = lits u id := by
  obtain ⟨c0, c1, c2, c3⟩ := hC
  have e := h.2.2.1 id hi
  have cell : ∀ i, 0 ≤ i → i < u.2.1 115 id → v.2.1 114 (30 * id + i) = u.2.1 114 (30 * id + i) := fun i i0 i1 => h.2.2.2 _ (by omega)
  refine ⟨⟨by rw [e.1]; exact c0, by rw [e.1]; exact c1, by rw [e.2]; exact c2, fun i i0 i1 => ?_⟩, ?_⟩
  · rw [e.1] at i1
    rw [cell i i0 i1]
    exact ((c3 i i0 i1).mono hT h.1).1
  · unfold lits
    rw [e.1]
    refine ls_congr (fun i hi => ?_)
    rw [cell _ (by omega) (by omega)]
    exact ((c3 _ (by omega) (by omega)).mono hT h.1).2
theorem GM.rn [DecidableEq Ob] {n : Int} {u v : iST} (h : GM u v) : RwN n u v :=
  ⟨h.1.mono f7M_R, h.2.1, fun id _ => ⟨congrFun (h.1.2.2.2.2 115 (by decide)).2 id, congrFun (h.1.2.2.2.2 116 (by decide)).2 id⟩, fun i _ => congrFun (h.1.2.2.2.2 114 (by decide)).2 i⟩
theorem f7D_rn [DecidableEq Ob] {n : Int} {u v : iST} (h : GZ f7D u v) : RwN n u v :=
  ⟨h.mono f7D_R, (h.2.2.2.2 71 (by decide)).1, fun id _ => ⟨congrFun (h.2.2.2.2 115 (by decide)).2 id, congrFun (h.2.2.2.2 116 (by decide)).2 id⟩, fun i _ => congrFun (h.2.2.2.2 114 (by decide)).2 i⟩
theorem p_splitRow [DecidableEq Ob] {id i a b : Int} {Q : Int → iST → Prop} {u : iST} {E : Sp.Env} (hT : TI u) (hU : TU u) (hC : ClOk u E id) (i0 : 0 ≤ i) (i1 : i < u.2.1 115 id) (na : Nd u E a) (nb : Nd u E b) (d0 : 0 ≤ id) (hid : id < u.1 117)
    (hok : ∀ v, RwN (u.1 117) u v → u.1 61 = 0 → Sp.bnd (((lits u id).take i.toNat ++ [ob u a, ob u b] ++ (lits u id).drop (i.toNat + 1)).foldl Sp.putL []) = true → v.1 61 = 0 → v.1 117 = u.1 117 + 1 → ClOk v E (u.1 117) → lits v (u.1 117) = ((lits u id).take i.toNat ++ [ob u a, ob u b] ++ (lits u id).drop (i.toNat + 1)).foldl Sp.putL [] → v.2.1 116 (u.1 117) = u.2.1 116 id + 1 → Q (u.1 117) v)
    (hbad : ∀ v, RwN (u.1 117) u v → v.1 117 = u.1 117 → v.1 61 ≠ 0 → (u.1 61 = 0 → Sp.bnd (((lits u id).take i.toNat ++ [ob u a, ob u b] ++ (lits u id).drop (i.toNat + 1)).foldl Sp.putL []) = false) → Q 0 v) : pw_splitRow id i a b Q u := by
  have hC' := hC
  obtain ⟨c0, c1, c2, c3⟩ := hC
  have hlen := lits_len u id
  unfold pw_splitRow
  intro w ew
  have gw : GZ f7D u w := by subst ew; exact GZ_eq (GZ.rf hT hU) (fun k hk => ⟨if_neg (by omega), rfl⟩) rfl (Fx_I (by decide))
  have w122 : w.1 122 = 0 := by rw [ew]; rfl
  clear ew
  have wd : DfOk w E := ⟨by omega, fun i i0 i1 => by omega⟩
  have wl : dfl w = [] := by unfold dfl; rw [w122]; rfl
  -- what the draft is when k literals are through
  let M : Nat → List Ob := fun k => if (k : Int) ≤ i then (lits u id).take k else (lits u id).take i.toNat ++ [ob u a, ob u b] ++ ((lits u id).take k).drop (i.toNat + 1)
  refine pw_splitRow_8_i (fun x1 x2 x3 x4 x5 v => x1 = id ∧ x2 = i ∧ x3 = a ∧ x4 = b ∧ GZ f7D u v ∧ DfOk v E ∧ ∃ k : Nat, x5 = (k : Int) ∧ (k : Int) ≤ u.2.1 115 id ∧ dfl v = (M k).foldl Sp.putL []) ?_ ⟨rfl, rfl, rfl, rfl, gw, wd, 0, rfl, c0, by rw [wl]; show [] = ((if ((0 : Nat) : Int) ≤ i then (lits u id).take 0 else _) : List Ob).foldl Sp.putL []; rw [if_pos (by omega)]; rfl⟩
  intro x1 x2 x3 x4 x5 v hI
  obtain ⟨e1, e2, e3, e4, gv, vd, k, e5, hk, vl⟩ := hI
  rw [e1, e2, e3, e4, e5]
  have hTv := gv.1
  have hUv := gv.2.1
  have rv : ∀ n, n ≠ 121 → n ≠ 122 → v.1 n = u.1 n ∧ v.2.1 n = u.2.1 n := fun n a b => gv.2.2.2.2 n (by unfold f7D; simp only [decide_eq_false_iff_not]; omega)
  unfold pw_splitRow_8b
  intro _ _ x ex _
  rw [(rv 115 (by decide) (by decide)).2] at ex
  rw [ex]
  refine ⟨fun hc => ?_, fun hc => ?_⟩
  · have hM : M k = (lits u id).take i.toNat ++ [ob u a, ob u b] ++ (lits u id).drop (i.toNat + 1) := by
      show (if (k : Int) ≤ i then _ else _) = _
      rw [if_neg (by omega), List.take_of_length_le (l := lits u id) (i := k) (by omega)]
    rw [hM] at vl
    intro _ _ y ey _ _
    rw [(rv 116 (by decide) (by decide)).2] at ey
    rw [ey]
    have v117 : v.1 117 = u.1 117 := (rv 117 (by decide) (by decide)).1
    have v61 : v.1 61 = u.1 61 := (rv 61 (by decide) (by decide)).1
    have rn : RwN (u.1 117) u v := f7D_rn gv
    refine p_row hTv hUv vd (by rw [v117]; omega) (by omega) (fun t gt t71 h61 hb t61 t117 told tC tl tm => ?_) (fun t hG hn h2 t61 hb => ?_)
    · rw [v117] at t117 told tC tl tm
      rw [vl] at hb tl
      rw [v117]
      exact hok t (rn.tr ⟨gt.mono f7C_R, t71, fun id' h' => ⟨(told id' h').1, (told id' h').2.1⟩, fun i' h' => (told (u.1 117 - 1) (by omega)).2.2 i' h'⟩) (v61.symm.trans h61) hb t61 t117 tC tl tm
    · rw [vl] at hb
      exact hbad t (rn.tr hG.rn) ((hn 117 (by decide)).trans v117) t61 (fun z => hb (v61.trans z))
  · have hkl : k < (u.2.1 115 id).toNat := by omega
    refine ⟨fun heq => ?_, fun hne => ?_⟩
    · obtain ⟨nav, eav⟩ := na.mono hT gv
      refine p_put hTv hUv vd nav (fun t1 g1 d1 l1 => ?_)
      obtain ⟨nb1, eb1⟩ := nb.mono hT (gv.tr g1)
      refine p_put g1.1 g1.2.1 d1 nb1 (fun t2 g2 d2 l2 => fun _ => ⟨rfl, rfl, rfl, rfl, (gv.tr g1).tr g2, d2, k + 1, by omega, by omega, ?_⟩)
      rw [l2, l1, vl, eb1, eav]
      have hk1 : M k = (lits u id).take i.toNat := by
        show (if (k : Int) ≤ i then _ else _) = _
        rw [if_pos (by omega), show k = i.toNat by omega]
      have hk2 : M (k + 1) = (lits u id).take i.toNat ++ [ob u a, ob u b] := by
        show (if ((k + 1 : Nat) : Int) ≤ i then _ else _) = _
        rw [if_neg (by omega), List.drop_eq_nil_of_le (by rw [List.length_take]; omega), List.append_nil]
      rw [hk1, hk2, List.foldl_append]
      rfl
    · have nd := c3 (k : Int) (by omega) (by omega)
      obtain ⟨ndv, edv⟩ := nd.mono hT gv
      intro _ _ _ _ y ey _
      rw [(rv 114 (by decide) (by decide)).2] at ey
      rw [ey]
      refine p_put hTv hUv vd ndv (fun t1 g1 d1 l1 => fun _ => ⟨rfl, rfl, rfl, rfl, gv.tr g1, d1, k + 1, by omega, by omega, ?_⟩)
      rw [l1, vl, edv]
      have hstep : M (k + 1) = M k ++ [ob u (u.2.1 114 (30 * id + (k : Int)))] := by
        show (if ((k + 1 : Nat) : Int) ≤ i then _ else _) = (if (k : Int) ≤ i then _ else _) ++ _
        have htk : (lits u id).take (k + 1) = (lits u id).take k ++ [ob u (u.2.1 114 (30 * id + (k : Int)))] := by rw [List.take_add_one, lits_get hkl]; rfl
        by_cases c : (k : Int) < i
        · rw [if_pos (by omega), if_pos (by omega), htk]
        · rw [if_neg (by omega), if_neg (by omega), htk, List.drop_append_of_le_length (by rw [List.length_take]; omega), List.append_assoc]
          simp only [List.append_assoc]
      rw [hstep, List.foldl_append]
      rfl
