-- deps: 487
/-! the reference, partial: clauses -/
/-- a row of terms, from a place on -/
def ls [DecidableEq Ob] (u : iST) (g : Int → Int) (lo : Int) (n : Nat) : List Ob := (List.range n).map (fun i : Nat => ob u (g (lo + (i : Int))))
theorem ls_len [DecidableEq Ob] (u : iST) (g : Int → Int) (lo : Int) (n : Nat) : (ls u g lo n).length = n := by unfold ls; simp
theorem ls_get [DecidableEq Ob] (u : iST) (g : Int → Int) (lo : Int) (n : Nat) {i : Nat} (hi : i < n) : (ls u g lo n)[i]? = some (ob u (g (lo + (i : Int)))) := by
  unfold ls
  rw [List.getElem?_map, List.getElem?_range hi]
  rfl
theorem ls_snoc [DecidableEq Ob] (u : iST) (g : Int → Int) (lo : Int) (n : Nat) : ls u g lo (n + 1) = ls u g lo n ++ [ob u (g (lo + (n : Int)))] := by
  unfold ls
  rw [List.range_succ, List.map_append]
  rfl
theorem ls_cons [DecidableEq Ob] (u : iST) (g : Int → Int) (lo : Int) (n : Nat) : ls u g lo (n + 1) = ob u (g lo) :: ls u g (lo + 1) n := by
  unfold ls
  rw [List.range_succ_eq_map, List.map_cons, List.map_map]
  refine congr (congrArg List.cons ?_) (List.map_congr_left (fun i _ => ?_))
  · rw [show lo + ((0 : Nat) : Int) = lo by omega]
  · show ob u (g (lo + ((i + 1 : Nat) : Int))) = ob u (g (lo + 1 + (i : Int)))
    rw [show lo + ((i + 1 : Nat) : Int) = lo + 1 + (i : Int) by omega]
theorem ls_congr [DecidableEq Ob] {u v : iST} {g h : Int → Int} {lo lo' : Int} {n : Nat} (e : ∀ i : Nat, i < n → ob v (h (lo' + (i : Int))) = ob u (g (lo + (i : Int)))) : ls v h lo' n = ls u g lo n := by
  unfold ls
  exact List.map_congr_left (fun i hi => e i (List.mem_range.mp hi))
theorem ls_mem [DecidableEq Ob] {u : iST} {g : Int → Int} {lo : Int} {n : Nat} {o : Ob} : o ∈ ls u g lo n ↔ ∃ i : Nat, i < n ∧ ob u (g (lo + (i : Int))) = o := by
  unfold ls
  rw [List.mem_map]
  exact ⟨fun ⟨i, hi, e⟩ => ⟨i, List.mem_range.mp hi, e⟩, fun ⟨i, hi, e⟩ => ⟨i, List.mem_range.mpr hi, e⟩⟩
/-- the draft -/
def dfl [DecidableEq Ob] (u : iST) : List Ob := ls u (u.2.1 121) 0 (u.1 122).toNat
def DfOk [DecidableEq Ob] (u : iST) (E : Sp.Env) : Prop := 0 ≤ u.1 122 ∧ ∀ i, 0 ≤ i → i < u.1 122 → Nd u E (u.2.1 121 i)
def f7D (k : Nat) : Bool := decide (121 ≤ k ∧ k ≤ 122)
theorem DfOk.mono [DecidableEq Ob] {n : Nat → Bool} {u v : iST} {E : Sp.Env} (h : DfOk u E) (hT : TI u) (hG : GZ n u v) (h1 : n 121 = false) (h2 : n 122 = false) : DfOk v E ∧ dfl v = dfl u := by
  have e1 := (hG.2.2.2.2 121 h1).2
  have e2 := (hG.2.2.2.2 122 h2).1
  refine ⟨⟨by rw [e2]; exact h.1, fun i i0 i1 => ?_⟩, ?_⟩
  · rw [e2] at i1
    rw [e1]
    exact ((h.2 i i0 i1).mono hT hG).1
  · unfold dfl
    rw [e1, e2]
    refine ls_congr (fun i hi => ?_)
    exact ((h.2 _ (by omega) (by have := h.1; omega)).mono hT hG).2
theorem p_put [DecidableEq Ob] {o : Int} {Q : iST → Prop} {u : iST} {E : Sp.Env} (hT : TI u) (hU : TU u) (hD : DfOk u E) (no : Nd u E o) (hq : ∀ v, GZ f7D u v → DfOk v E → dfl v = Sp.putL (dfl u) (ob u o) → Q v) : pw_put o Q u := by
  have d0 := hD.1
  unfold pw_put
  refine pw_put_2_i (fun x1 x2 v => v = u ∧ x1 = o ∧ 0 ≤ x2 ∧ ∀ i, 0 ≤ i → i < x2 → i < u.1 122 → u.2.1 121 i ≠ o) ?_ ⟨rfl, rfl, by omega, fun i i0 i1 => by omega⟩
  intro x1 x2 v hI
  obtain ⟨e1, e2, i0, hi⟩ := hI
  rw [e1, e2]
  unfold pw_put_2b
  intro x ex _
  subst ex
  refine ⟨fun hc => ?_, fun hc => ?_⟩
  · intro y ey _ _ _ w1 ew1 z ez _ _ w2 ew2
    subst ey
    have g : GZ f7D u w2 := by
      rw [ew2, ew1]
      exact GZ_eq (GZ.rf hT hU) (fun k hk => ⟨if_neg (by omega), if_neg (by omega)⟩) rfl ((Fx_A (by decide)).tr (Fx_I (by decide)))
    have w122 : w2.1 122 = u.1 122 + 1 := by rw [ew2, ez, ew1]; rfl
    have w121 : ∀ i, w2.2.1 121 i = if i = u.1 122 then o else u.2.1 121 i := fun i => by rw [ew2, ew1]; rfl
    clear ew1 ew2 ez
    refine hq w2 g ⟨by omega, fun i j0 j1 => ?_⟩ ?_
    · rw [w121]
      by_cases c : i = u.1 122
      · rw [if_pos c]; exact (no.mono hT g).1
      · rw [if_neg c]; exact ((hD.2 i j0 (by omega)).mono hT g).1
    · have hno : Ob.has (dfl u) (ob u o) = false := by
        cases e : Ob.has (dfl u) (ob u o) with
        | false => rfl
        | true =>
          obtain ⟨i, i1, i2⟩ := ls_mem.mp (Ob.has_iff.mp e)
          have nd := hD.2 (0 + (i : Int)) (by omega) (by omega)
          exact absurd ((hT.inj hU nd.1 nd.2.1 no.1 no.2.1).mp i2) (hi _ (by omega) (by omega) (by omega))
      unfold Sp.putL
      rw [if_neg (by rw [hno]; decide)]
      unfold dfl
      rw [w122, show (u.1 122 + 1).toNat = (u.1 122).toNat + 1 by omega, ls_snoc]
      refine congr (congrArg _ (ls_congr (fun i hi => ?_))) ?_
      · rw [w121, if_neg (by omega), ((hD.2 _ (by omega) (by omega)).mono hT g).2]
      · rw [w121, if_pos (by omega), (no.mono hT g).2]
  · intro _ _ y ey _
    subst ey
    refine ⟨fun hd _ => ⟨rfl, rfl, by omega, fun i j0 j1 j2 => ?_⟩, fun hd => hq u (GZ.rf hT hU) hD ?_⟩
    · by_cases c : i = x2
      · rw [c]; exact hd
      · exact hi i j0 (by omega) j2
    · unfold Sp.putL
      rw [if_pos]
      refine Ob.has_iff.mpr (ls_mem.mpr ⟨x2.toNat, by omega, ?_⟩)
      rw [show (0 : Int) + (x2.toNat : Int) = x2 by omega, Decidable.not_not.mp hd]
/-- SIZES together, as they are written down -/
def capS7 [DecidableEq Ob] : List Ob → Int | [] => 0 | a :: l => cap a.sz + capS7 l
theorem capS7_app [DecidableEq Ob] : ∀ a b : List Ob, capS7 (a ++ b) = capS7 a + capS7 b
  | [], b => by show capS7 b = 0 + capS7 b; omega
  | x :: a, b => by
    have := capS7_app a b
    show cap x.sz + capS7 (a ++ b) = cap x.sz + capS7 a + capS7 b
    omega
theorem capS7_le [DecidableEq Ob] : ∀ l : List Ob, 0 ≤ capS7 l ∧ (capS7 l = Sp.szL l ∨ (30000 ≤ capS7 l ∧ 30000 ≤ Sp.szL l))
  | [] => ⟨Int.le_refl _, Or.inl rfl⟩
  | a :: l => by
    have ih := capS7_le l
    have ha := Ob.sz_pos a
    have e1 : capS7 (a :: l) = cap a.sz + capS7 l := rfl
    have e2 : Sp.szL (a :: l) = a.sz + Sp.szL l := rfl
    have hl : 0 ≤ Sp.szL l := by
      rcases ih.2 with h | h <;> omega
    rw [e1, e2]
    unfold cap
    split <;> omega
theorem capS7_400 [DecidableEq Ob] (l : List Ob) : capS7 l ≤ 400 ↔ Sp.szL l ≤ 400 := by
  have := capS7_le l
  omega
theorem p_bounded [DecidableEq Ob] {Q : iST → Prop} {u : iST} {E : Sp.Env} (hT : TI u) (hU : TU u) (hD : DfOk u E) (hq : ∀ v, GM u v → (∀ k, k ≠ 61 → v.1 k = u.1 k) → v.2 = u.2 → v.1 61 = (if u.1 61 ≠ 0 then u.1 61 else if Sp.bnd (dfl u) then 0 else 4) → Q v) : pw_bounded Q u := by
  have d0 := hD.1
  have hlen : (dfl u).length = (u.1 122).toNat := ls_len _ _ _ _
  unfold pw_bounded
  refine pw_bounded_4_i (fun x1 x2 v => v = u ∧ ∃ i : Nat, x2 = (i : Int) ∧ (i : Int) ≤ u.1 122 ∧ x1 = capS7 ((dfl u).take i)) ?_ ⟨rfl, 0, rfl, by omega, rfl⟩
  intro x1 x2 v hI
  obtain ⟨e1, i, e2, hi, e3⟩ := hI
  rw [e1, e2, e3]
  unfold pw_bounded_4b
  intro x ex _
  subst ex
  refine ⟨fun hc => ?_, fun hc => ?_⟩
  · have hfull : (dfl u).take i = dfl u := List.take_of_length_le (by omega)
    rw [hfull]
    have bad : Sp.bnd (dfl u) = false → pw_bounded_47 Q u := by
      intro hz
      unfold pw_bounded_47
      refine p_fail hT hU (fun w hG hn h2 h => hq w hG hn h2 ?_)
      rw [h, hz]
      rfl
    intro y ey _
    subst ey
    refine ⟨fun hz => bad ?_, fun hz => ⟨fun hy => ?_, fun hy => bad ?_⟩⟩
    · unfold Sp.bnd
      rw [decide_eq_false (by omega)]; rfl
    · refine hq u (GM.rf hT hU) (fun _ _ => rfl) rfl ?_
      have : Sp.bnd (dfl u) = true := by
        unfold Sp.bnd
        rw [decide_eq_true (by omega), decide_eq_true ((capS7_400 _).mp hy)]; rfl
      rw [this]
      by_cases c : u.1 61 ≠ 0
      · rw [if_pos c]
      · rw [if_neg c, if_pos rfl]; omega
    · unfold Sp.bnd
      rw [decide_eq_false (show ¬ Sp.szL (dfl u) ≤ 400 from fun z => hy ((capS7_400 _).mpr z))]
      simp
  · have nd := hD.2 (i : Int) (by omega) (by omega)
    intro _ _ y ey _
    subst ey
    refine p_sizeOf hT hU nd.1 nd.2.1 nd.2.2.1 (fun _ _ => ⟨rfl, i + 1, by omega, by omega, ?_⟩)
    have hg : (dfl u)[i]? = some (ob u (u.2.1 121 (0 + (i : Int)))) := ls_get _ _ _ _ (by omega)
    rw [List.take_add_one, hg, capS7_app]
    show _ = capS7 ((dfl u).take i) + (cap (ob u (u.2.1 121 (0 + (i : Int)))).sz + 0)
    rw [show (0 : Int) + (i : Int) = (i : Int) by omega]
    omega
/-- clauses: literals, rounds -/
def lits [DecidableEq Ob] (u : iST) (id : Int) : List Ob := ls u (u.2.1 114) (30 * id) (u.2.1 115 id).toNat
def ClOk [DecidableEq Ob] (u : iST) (E : Sp.Env) (id : Int) : Prop := 0 ≤ u.2.1 115 id ∧ u.2.1 115 id ≤ 30 ∧ 0 ≤ u.2.1 116 id ∧ ∀ i, 0 ≤ i → i < u.2.1 115 id → Nd u E (u.2.1 114 (30 * id + i))
def f7C (k : Nat) : Bool := f7M k || decide (114 ≤ k ∧ k ≤ 117)
theorem f7M_C [DecidableEq Ob] : ∀ k, f7C k = false → f7M k = false := by
  intro k h
  unfold f7C at h
  rw [Bool.or_eq_false_iff] at h
  exact h.1
/-- the draft becomes a clause: bounded, or a fault -/
theorem p_row [DecidableEq Ob] {m : Int} {Q : Int → iST → Prop} {u : iST} {E : Sp.Env} (hT : TI u) (hU : TU u) (hD : DfOk u E) (r0 : 0 ≤ u.1 117) (m0 : 0 ≤ m)
    (hok : ∀ v, GZ f7C u v → v.1 71 = u.1 71 → u.1 61 = 0 → Sp.bnd (dfl u) = true → v.1 61 = 0 → v.1 117 = u.1 117 + 1 → (∀ id, id < u.1 117 → v.2.1 115 id = u.2.1 115 id ∧ v.2.1 116 id = u.2.1 116 id ∧ ∀ i, i < 30 * u.1 117 → v.2.1 114 i = u.2.1 114 i) → ClOk v E (u.1 117) → lits v (u.1 117) = dfl u → v.2.1 116 (u.1 117) = m → Q (u.1 117) v)
    (hbad : ∀ v, GM u v → (∀ k, k ≠ 61 → v.1 k = u.1 k) → v.2 = u.2 → v.1 61 ≠ 0 → (u.1 61 = 0 → Sp.bnd (dfl u) = false) → Q 0 v) : pw_row m Q u := by
  have d0 := hD.1
  unfold pw_row
  refine p_bounded hT hU hD (fun w hG hn h2 h61 => ?_)
  intro x ex _
  subst ex
  refine ⟨fun hz => ?_, fun hz => hbad w hG hn h2 hz (fun z => ?_)⟩
  · have hu : u.1 61 = 0 := by
      by_cases c : u.1 61 = 0
      · exact c
      · rw [if_pos c] at h61; omega
    have hb : Sp.bnd (dfl u) = true := by
      cases e : Sp.bnd (dfl u) with
      | true => rfl
      | false =>
        rw [if_neg (not_not_intro hu), e] at h61
        have h61 : w.1 61 = 4 := h61
        omega
    have hlen : (dfl u).length ≤ 30 := by
      unfold Sp.bnd at hb
      rw [Bool.and_eq_true, decide_eq_true_eq] at hb
      exact hb.1
    have hd30 : u.1 122 ≤ 30 := by
      have : (dfl u).length = (u.1 122).toNat := ls_len _ _ _ _
      omega
    have hTw := hG.1.1
    have hUw := hG.1.2.1
    have eo : ∀ j, ob w j = ob u j := ob_same (by rw [h2]) (by rw [h2]) (by rw [h2]) (by rw [h2]) (by rw [h2])
    refine pw_row_15_i (fun x1 x2 v => x1 = m ∧ 0 ≤ x2 ∧ x2 ≤ u.1 122 ∧ GZ f7C w v ∧ v.1 = w.1 ∧ (∀ q, q ≠ 114 → v.2.1 q = w.2.1 q) ∧ (∀ i, i < 30 * u.1 117 → v.2.1 114 i = w.2.1 114 i) ∧ ∀ i, 0 ≤ i → i < x2 → v.2.1 114 (30 * u.1 117 + i) = w.2.1 121 i) ?_ ⟨rfl, by omega, d0, GZ.rf hTw hUw, rfl, fun _ _ => rfl, fun _ _ => rfl, fun i i0 i1 => by omega⟩
    intro x1 x2 v hI
    obtain ⟨e1, i0, i1, gv, v1, vq, v114, vi⟩ := hI
    rw [e1]
    have w122 : w.1 122 = u.1 122 := hn 122 (by decide)
    have w117 : w.1 117 = u.1 117 := hn 117 (by decide)
    unfold pw_row_15b
    intro y ey _
    rw [v1, w122] at ey
    rw [ey]
    refine ⟨fun hc => ?_, fun hc => ?_⟩
    · intro a ea _ b eb _ _ _ t1 et1 c ec _ _ _ t2 et2 d' ed _ _ t3 et3 f ef _ _
      rw [v1, w117] at ea
      rw [v1, w122] at eb
      have hc' : c = u.1 117 := by rw [ec, et1]; show v.1 117 = _; rw [v1, w117]
      have hd' : d' = u.1 117 := by rw [ed, et2, et1]; show v.1 117 = _; rw [v1, w117]
      have gt : GZ f7C v t3 := by
        rw [et3, et2, et1]
        exact GZ_eq (GZ.rf gv.1 gv.2.1) (fun k hk => ⟨if_neg (by omega), (if_neg (by omega)).trans (if_neg (by omega))⟩) rfl (((Fx_A (by decide)).tr (Fx_A (by decide))).tr (Fx_I (by decide)))
      have t117 : t3.1 117 = u.1 117 + 1 := by rw [et3, hd']; rfl
      have tn : ∀ k, k ≠ 117 → t3.1 k = v.1 k := fun k hk => by rw [et3, et2, et1]; exact if_neg hk
      have t114 : t3.2.1 114 = v.2.1 114 := by rw [et3, et2, et1]; rfl
      have t115 : ∀ i, t3.2.1 115 i = if i = u.1 117 then u.1 122 else u.2.1 115 i := fun i => by
        rw [et3, et2, et1, ea, eb]
        show (if i = u.1 117 then u.1 122 else v.2.1 115 i) = _
        rw [vq 115 (by decide), h2]
      have t116 : ∀ i, t3.2.1 116 i = if i = u.1 117 then m else u.2.1 116 i := fun i => by
        rw [et3, et2, hc', et1]
        show (if i = u.1 117 then m else v.2.1 116 i) = _
        rw [vq 116 (by decide), h2]
      have hf : f - 1 = u.1 117 := by rw [ef, t117]; omega
      rw [hf]
      clear et1 et2 et3 ec ed ef
      have gw : GZ f7C u w := hG.1.mono f7M_C
      have gu : GZ f7C u t3 := (gw.tr gv).tr gt
      have e2 : x2 = u.1 122 := by omega
      have cell : ∀ i, 0 ≤ i → i < u.1 122 → t3.2.1 114 (30 * u.1 117 + i) = u.2.1 121 i := fun i j0 j1 => by rw [t114, vi i j0 (by omega), h2]
      refine hok t3 gu (by rw [tn 71 (by decide), v1, hn 71 (by decide)]) hu hb (by rw [tn 61 (by decide), v1]; exact hz) t117 (fun id hid => ⟨by rw [t115, if_neg (by omega)], by rw [t116, if_neg (by omega)], fun i hi => by rw [t114, v114 i hi, h2]⟩) ⟨by rw [t115, if_pos rfl]; exact d0, by rw [t115, if_pos rfl]; exact hd30, by rw [t116, if_pos rfl]; exact m0, fun i j0 j1 => ?_⟩ ?_ (by rw [t116, if_pos rfl])
      · rw [t115, if_pos rfl] at j1
        rw [cell i j0 j1]
        exact ((hD.2 i j0 j1).mono hT gu).1
      · unfold lits dfl
        rw [t115, if_pos rfl]
        refine ls_congr (fun i hi => ?_)
        rw [cell _ (by omega) (by omega), show (0 : Int) + (i : Int) = (i : Int) by omega]
        exact ((hD.2 _ (by omega) (by omega)).mono hT gu).2
    · intro a ea _ _ _ _ _ b eb _ _ _ t et _
      rw [v1, w117] at ea
      rw [ea] at et
      have gt : GZ f7C v t := by rw [et]; exact GZ_eq (GZ.rf gv.1 gv.2.1) (fun k hk => ⟨rfl, if_neg (by omega)⟩) rfl (Fx_A (by decide))
      refine ⟨rfl, by omega, by omega, gv.tr gt, by rw [et]; exact v1, fun q hq' => ?_, fun i hi => ?_, fun i j0 j1 => ?_⟩
      · rw [et]; exact (if_neg hq').trans (vq q hq')
      · rw [et, iA_row, if_neg (by omega)]; exact v114 i hi
      · rw [et, iA_row]
        by_cases c : i = x2
        · rw [if_pos ⟨rfl, by omega⟩, eb, vq 121 (by decide), c]
        · rw [if_neg (by omega)]; exact vi i j0 (by omega)
  · rw [if_neg (not_not_intro z)] at h61
    cases e : Sp.bnd (dfl u) with
    | false => rfl
    | true => rw [e, if_pos rfl] at h61; exact absurd h61 hz
