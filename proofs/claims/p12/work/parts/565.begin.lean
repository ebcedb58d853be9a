-- deps: 564
/-! the reference as it is new -/
theorem kw_known [DecidableEq Ob] : Ob.known = kw.map Ob.sym := rfl
set_option maxRecDepth 100000 in
theorem kw_okw [DecidableEq Ob] : ∀ w, w ∈ kw → w.length ≤ 12 ∧ ∀ c, c ∈ w → (1 : Int) ≤ c ∧ c ≤ 127 := by decide
theorem HOk_nil [DecidableEq Ob] : Sp.HOk ([], [], []) := by
  refine ⟨rfl, rfl, fun j hj => ?_⟩
  have e1 : (([] : List Sp.Dfn)).take (Sp.nd (([] : List Int).take j)) = [] := List.take_nil
  have e2 : (([] : List Sp.Thm)).take (j - Sp.nd (([] : List Int).take j)) = [] := List.take_nil
  show Sp.HWf ((([] : List Sp.Dfn)).take (Sp.nd (([] : List Int).take j))) ((([] : List Sp.Thm)).take (j - Sp.nd (([] : List Int).take j)))
  rw [e1, e2]
  exact ⟨fun D h => absurd h List.not_mem_nil, fun k h => absurd h List.not_mem_nil, List.nodup_nil, List.nodup_nil⟩
theorem sn7_l [DecidableEq Ob] {u : iST} (h : SN 44 u) {k : Nat} (hk : k < 44) : lts u (k : Int) = kw.getD k [] := by
  obtain ⟨b1, b2, b3, b4⟩ := h.2.2.2.2.2 k hk
  have e : (u.2.1 10 (k : Int)).toNat = (kw.getD k []).length := by rw [b3]; exact Int.toNat_natCast _
  unfold lts
  refine List.ext_getElem (by rw [List.length_map, List.length_range, e]) (fun i hi hj => ?_)
  rw [List.getElem_map, List.getElem_range]
  have := b4 i hj
  rw [List.getD_eq_getElem?_getD, List.getElem?_eq_getElem hj] at this
  exact this
theorem sn7_o [DecidableEq Ob] {u : iST} (h : SN 44 u) {k : Nat} (hk : k < 44) : ob u (k : Int) = Ob.sym (kw.getD k []) := by
  obtain ⟨b1, b2, b3, b4⟩ := h.2.2.2.2.2 k hk
  rw [ob_sym b1.1, b2, sn7_l h hk]
theorem kw_at [DecidableEq Ob] {k : Nat} (hk : k < 44) : kw[k]? = some (kw.getD k []) := by
  have hl : kw.length = 44 := rfl
  rw [List.getD_eq_getElem?_getD, List.getElem?_eq_getElem (by omega)]
  rfl
theorem sn7_t [DecidableEq Ob] {u : iST} (h : SN 44 u) : TU u := by
  have h8 : u.1 8 = 44 := h.2.1
  have at' : ∀ k, 0 ≤ k → k < u.1 8 → ∃ j : Nat, j < 44 ∧ k = (j : Int) := fun k k0 k1 => ⟨k.toNat, by omega, by omega⟩
  refine ⟨fun j k j0 j1 k0 k1 ej ek _ => ?_, fun j k j0 j1 k0 k1 ej ek e => ?_, fun k k0 k1 => ?_, fun i hi => ?_, fun k k0 k1 ek => ?_⟩
  · obtain ⟨i, hi, rfl⟩ := at' j j0 j1
    have := (h.2.2.2.2.2 i hi).1.1
    omega
  · obtain ⟨i, hi, rfl⟩ := at' j j0 j1
    obtain ⟨i2, hi2, rfl⟩ := at' k k0 k1
    rw [(h.2.2.2.2.2 i hi).2.1, (h.2.2.2.2.2 i2 hi2).2.1, sn7_l h hi, sn7_l h hi2] at e
    rcases Nat.lt_trichotomy i i2 with c | c | c
    · exact absurd e (kw_neq i2 hi2 i c)
    · rw [c]
    · exact absurd e.symm (kw_neq i hi i2 c)
  · obtain ⟨i, hi, rfl⟩ := at' k k0 k1
    obtain ⟨b1, b2, b3, b4⟩ := h.2.2.2.2.2 i hi
    refine ⟨?_, Or.inl b1.2.1⟩
    rw [b1.2.2, sn7_o h hi]
    rfl
  · rw [sn7_o h hi, kw_known, List.getElem?_map, kw_at hi]
    rfl
  · obtain ⟨i, hi, rfl⟩ := at' k k0 k1
    rw [(h.2.2.2.2.2 i hi).2.1, sn7_l h hi]
    exact kw_okw _ (List.mem_of_getElem? (kw_at hi))
/-- the house of both as it is new: 1000 STEPS, nothing taken, nothing read -/
def Sp.St0 [DecidableEq Ob] : Sp.St := (([], [], []), 1000, [], List.replicate 20 0, 0, 0, false)
theorem sn7_r [DecidableEq Ob] {u : iST} (h : SN 44 u) : RfS u Sp.St0 := by
  have hTU := sn7_t h
  obtain ⟨s1, s2, s3, s4, s5, s6⟩ := h
  have f : ∀ k, fSt k = false → u.1 k = stU.1 k := fun k hk => (s5 k hk).1
  have g : ∀ k, fSt k = false → u.2.1 k = fun _ => 0 := fun k hk => (s5 k hk).2
  have n35 : u.1 35 = 0 := f 35 rfl
  have n42 : u.1 42 = 0 := f 42 rfl
  have n57 : u.1 57 = -1 := f 57 rfl
  have n54 : u.1 54 = 0 := f 54 rfl
  have n14 : u.1 14 = 0 := f 14 rfl
  have e1 : dfs u = [] := by unfold dfs; rw [n35]; rfl
  have e2 : thmsL u = [] := by unfold thmsL; rw [n42]; rfl
  have e3 : srt u = [] := by unfold srt; rw [n54]; rfl
  have hx : HX u ([], [], []) [] := by
    refine ⟨⟨s1.1.2, s1.2⟩, hTU, ⟨⟨e1.symm, by omega, fun d d0 d1 => by omega⟩, n57, fun D hD => absurd hD List.not_mem_nil, e2.symm, by omega, fun r r0 r1 => by omega, fun r r0 r1 => by omega⟩, fun k k0 k1 => by omega, HOk_nil, by omega, e3.symm, fun j j0 j1 => by omega⟩
  refine ⟨⟨[], hx⟩, f 64 rfl, f 59 rfl, ⟨by omega, tx_nil (by omega)⟩, ?_, f 60 rfl, f 63 rfl, ?_⟩
  · show wtg u = List.replicate 20 0
    unfold wtg
    rw [g 12 rfl]
    rfl
  · show bq (u.1 62) false
    have : u.1 62 = 0 := f 62 rfl
    exact ⟨fun _ => rfl, fun _ => this⟩
