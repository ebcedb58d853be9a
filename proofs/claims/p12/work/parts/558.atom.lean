-- deps: 557
/-! the reference: an atom is read -/
def f7Wd (k : Nat) : Bool := decide (k ≤ 11) || decide (17 ≤ k ∧ k ≤ 18)
theorem fT_Wd [DecidableEq Ob] : ∀ k, f7Wd k = false → fT k = false := by
  intro k h
  unfold f7Wd at h
  unfold fT
  simp only [Bool.or_eq_false_iff, decide_eq_false_iff_not] at h ⊢
  omega
theorem p_isDigit [DecidableEq Ob] {x : Int} {Q : Int → iST → Prop} {u : iST} (h : ∀ r, bq r (Sp.isDig x) → Q r u) : pw_isDigit x Q u := by
  unfold pw_isDigit
  exact ⟨fun a _ => h 0 (bq0 (decide_eq_false (by omega))), fun a => ⟨fun b _ => h 0 (bq0 (decide_eq_false (by omega))), fun b _ => h 1 (bq1 (decide_eq_true (by omega)))⟩⟩
theorem isAtm_t [DecidableEq Ob] {x : Int} (h : (97 ≤ x ∧ x ≤ 122) ∨ (48 ≤ x ∧ x ≤ 57) ∨ x = 43 ∨ x = 45 ∨ x = 42 ∨ x = 47 ∨ x = 60 ∨ x = 62 ∨ x = 61 ∨ x = 63 ∨ x = 33 ∨ x = 95) : Sp.isAtm x = true := by
  unfold Sp.isAtm Sp.isDig
  simp only [Bool.or_eq_true, decide_eq_true_eq]
  omega
theorem isAtm_f [DecidableEq Ob] {x : Int} (h : ¬ ((97 ≤ x ∧ x ≤ 122) ∨ (48 ≤ x ∧ x ≤ 57) ∨ x = 43 ∨ x = 45 ∨ x = 42 ∨ x = 47 ∨ x = 60 ∨ x = 62 ∨ x = 61 ∨ x = 63 ∨ x = 33 ∨ x = 95)) : Sp.isAtm x = false := by
  unfold Sp.isAtm Sp.isDig
  simp only [Bool.or_eq_false_iff, decide_eq_false_iff_not]
  omega
theorem isAtm_in [DecidableEq Ob] {x : Int} (h : Sp.isAtm x = true) : 33 ≤ x ∧ x ≤ 122 := by
  unfold Sp.isAtm Sp.isDig at h
  simp only [Bool.or_eq_true, decide_eq_true_eq] at h
  omega
theorem p_isAtom [DecidableEq Ob] {x : Int} {Q : Int → iST → Prop} {u : iST} (h : ∀ r, bq r (Sp.isAtm x) → Q r u) : pw_isAtom x Q u := by
  have y : ∀ P : Prop, P → (P → (97 ≤ x ∧ x ≤ 122) ∨ (48 ≤ x ∧ x ≤ 57) ∨ x = 43 ∨ x = 45 ∨ x = 42 ∨ x = 47 ∨ x = 60 ∨ x = 62 ∨ x = 61 ∨ x = 63 ∨ x = 33 ∨ x = 95) → ztp 1 (Q 1 u) := fun P p f _ => h 1 (bq1 (isAtm_t (f p)))
  have go : ¬ (97 ≤ x ∧ x ≤ 122) → pw_isAtom_12 Q x u := by
    intro hn
    unfold pw_isAtom_12
    refine p_isDigit (fun r hr => ⟨fun hz => y _ (of_decide_eq_true (hr.t hz)) (fun p => Or.inr (Or.inl p)), fun hz => ?_⟩)
    have nd : ¬ (48 ≤ x ∧ x ≤ 57) := of_decide_eq_false (hr.f (Decidable.not_not.mp hz))
    refine ⟨fun c => y _ c (fun p => by omega), fun c1 => ⟨fun c => y _ c (fun p => by omega), fun c2 => ⟨fun c => y _ c (fun p => by omega), fun c3 => ⟨fun c => y _ c (fun p => by omega), fun c4 => ⟨fun c => y _ c (fun p => by omega), fun c5 => ⟨fun c => y _ c (fun p => by omega), fun c6 => ⟨fun c => y _ c (fun p => by omega), fun c7 => ⟨fun c => y _ c (fun p => by omega), fun c8 => ⟨fun c => y _ c (fun p => by omega), fun c9 => ⟨fun c _ => h 0 (bq0 (isAtm_f (by omega))), fun c => y _ (Decidable.not_not.mp c) (fun p => by omega)⟩⟩⟩⟩⟩⟩⟩⟩⟩⟩
  unfold pw_isAtom
  exact ⟨fun a => go (by omega), fun a => ⟨fun b => y _ b (fun p => by omega), fun b => go (by omega)⟩⟩
/-- the text from a place to another -/
def tw [DecidableEq Ob] (u : iST) (p q : Int) : List Int := (List.range (q - p).toNat).map (fun i : Nat => u.2.1 13 (p + (i : Int)))
theorem tw_len [DecidableEq Ob] (u : iST) (p q : Int) : (tw u p q).length = (q - p).toNat := by unfold tw; simp
theorem tw_nil [DecidableEq Ob] {u : iST} {p q : Int} (h : q ≤ p) : tw u p q = [] := by
  unfold tw
  rw [show (q - p).toNat = 0 by omega]
  rfl
theorem tw_cons [DecidableEq Ob] {u : iST} {p q : Int} (h : p < q) : tw u p q = u.2.1 13 p :: tw u (p + 1) q := by
  unfold tw
  rw [show (q - p).toNat = (q - (p + 1)).toNat + 1 by omega, List.range_succ_eq_map, List.map_cons, List.map_map]
  refine congr (congrArg List.cons ?_) (List.map_congr_left (fun i _ => ?_))
  · rw [show p + ((0 : Nat) : Int) = p by omega]
  · show u.2.1 13 (p + ((i + 1 : Nat) : Int)) = u.2.1 13 (p + 1 + (i : Int))
    rw [show p + ((i + 1 : Nat) : Int) = p + 1 + (i : Int) by omega]
theorem tw_snoc [DecidableEq Ob] {u : iST} {p q : Int} (h : p ≤ q) : tw u p (q + 1) = tw u p q ++ [u.2.1 13 q] := by
  unfold tw
  rw [show (q + 1 - p).toNat = (q - p).toNat + 1 by omega, List.range_succ, List.map_append]
  refine congrArg (fun z => _ ++ z) ?_
  show [u.2.1 13 (p + (((q - p).toNat : Nat) : Int))] = _
  rw [show p + (((q - p).toNat : Nat) : Int) = q by omega]
theorem tw_mem [DecidableEq Ob] {u : iST} {p q c : Int} (h : c ∈ tw u p q) : ∃ i, p ≤ i ∧ i < q ∧ c = u.2.1 13 i := by
  unfold tw at h
  obtain ⟨i, hi, e⟩ := List.mem_map.mp h
  have := List.mem_range.mp hi
  exact ⟨p + (i : Int), by omega, by omega, e.symm⟩
theorem p_atom [DecidableEq Ob] {a b : Int} {Q : Int → iST → Prop} {u : iST} (hT : TI u) (hU : TU u) (ab : a ≤ b) (ha : ∀ i, a ≤ i → i < b → Sp.isAtm (u.2.1 13 i) = true)
    (hq : ∀ r v, GZ f7Wd u v → (Sp.atomO (tw u a b) = none ∧ r = -1) ∨ (0 ≤ r ∧ r < v.1 8 ∧ Sp.atomO (tw u a b) = some (ob v r)) → Q r v) : pw_atom a b Q u := by
  have rf : GZ f7Wd u u := GZ.rf hT hU
  -- digits alone
  have go50 : (tw u a b).all Sp.isDig = true → pw_atom_50 Q b 0 a u := by
    intro hall
    have dig : ∀ i, a ≤ i → i < b → 48 ≤ u.2.1 13 i ∧ u.2.1 13 i ≤ 57 := fun i i0 i1 => by
      have := List.all_eq_true.mp hall (u.2.1 13 i) (by
        unfold tw
        refine List.mem_map.mpr ⟨(i - a).toNat, List.mem_range.mpr (by omega), ?_⟩
        rw [show a + (((i - a).toNat : Nat) : Int) = i by omega])
      exact of_decide_eq_true this
    have eA : Sp.atomO (tw u a b) = (Sp.natOf (tw u a b) 0).map Ob.nat := if_pos hall
    refine pw_atom_50_i (fun x2 x4 x6 y => x2 = b ∧ y = u ∧ a ≤ x6 ∧ x6 ≤ b ∧ 0 ≤ x4 ∧ x4 ≤ 4611686018427387903 ∧ Sp.natOf (tw u x6 b) x4 = Sp.natOf (tw u a b) 0) ?_ ⟨rfl, rfl, Int.le_refl _, ab, by decide, by decide, rfl⟩
    rintro x2 x4 x6 y ⟨e2, ey, a0, a1, v0, v1, hn⟩
    rw [e2, ey]
    unfold pw_atom_50b
    refine ⟨fun hle => ?_, fun hlt => ?_⟩
    · refine p_natural hT hU v0 v1 (fun k v gv k0 k1 ek => hq k v (gv.gz.mono fT_Wd) (Or.inr ⟨k0, k1, ?_⟩))
      rw [eA, ← hn, tw_nil hle, ek]
      rfl
    · intro _ _ c ec _ _ _
      have d := dig x6 a0 (by omega)
      rw [← ec] at d
      have et : Int.tdiv (4611686018427387903 - (c - 48)) 10 = (4611686018427387903 - (c - 48)) / 10 := Int.tdiv_eq_ediv_of_nonneg (by omega)
      rw [et]
      rw [tw_cons (show x6 < b by omega), ← ec] at hn
      refine ⟨by decide, fun hv => ?_, fun hv => ?_⟩
      · intro _ _ _ c2 ec2 _ _ _ _
        have hn : (if x4 ≤ (4611686018427387903 - (c - 48)) / 10 then Sp.natOf (tw u (x6 + 1) b) (10 * x4 + (c - 48)) else none) = Sp.natOf (tw u a b) 0 := hn
        rw [if_pos hv] at hn
        rw [← ec] at ec2
        refine ⟨rfl, rfl, by omega, by omega, by omega, by omega, ?_⟩
        rw [← hn, ec2, show 10 * x4 + c - 48 = 10 * x4 + (c - 48) by omega]
      · have hn : (if x4 ≤ (4611686018427387903 - (c - 48)) / 10 then Sp.natOf (tw u (x6 + 1) b) (10 * x4 + (c - 48)) else none) = Sp.natOf (tw u a b) 0 := hn
        rw [if_neg hv] at hn
        exact hq (-1) u rf (Or.inl ⟨by rw [eA, ← hn]; rfl, rfl⟩)
  -- a word
  have go135 : ¬ (tw u a b).all Sp.isDig = true → b - a ≤ 11 → ∀ w, w = iI u 18 0 → pw_atom_135 Q b a w := by
    intro hall hl w ew
    have eA : Sp.atomO (tw u a b) = some (Ob.sym (tw u a b)) := by
      unfold Sp.atomO
      rw [if_neg hall, if_pos (by rw [tw_len]; omega)]
    have gw : GZ f7Wd u w := by rw [ew]; exact GZ_eq rf (fun k hk => ⟨if_neg (by omega), rfl⟩) rfl (Fx_I (by decide))
    refine pw_atom_135_i (fun x2 x4 y => x2 = b ∧ a ≤ x4 ∧ x4 ≤ b ∧ GZ f7Wd u y ∧ y.1 18 = x4 - a ∧ wrd y = tw u a x4) ?_ ⟨rfl, Int.le_refl _, ab, gw, by rw [ew]; show (0 : Int) = _; omega, by rw [tw_nil (Int.le_refl _), ew]; rfl⟩
    rintro x2 x4 y ⟨e2, a0, a1, gy, y18, ey⟩
    rw [e2]
    unfold pw_atom_135b
    refine ⟨fun hle => ?_, fun hlt => ?_⟩
    · have hb : x4 = b := by omega
      rw [hb] at ey y18
      refine p_symbol gy.1 gy.2.1 (by omega) (by omega) ?_ (fun k v gv k0 k1 ek => hq k v (gy.tr (gv.gz.mono fT_Wd)) (Or.inr ⟨k0, k1, by rw [eA, ek, ey]⟩))
      rw [ey]
      refine ⟨by rw [tw_len]; omega, fun c hc => ?_⟩
      obtain ⟨i, i0, i1, ec⟩ := tw_mem hc
      have := isAtm_in (ha i i0 i1)
      omega
    · intro _ _ c ec _
      rw [(gy.2.2.2.2 13 (by decide)).2] at ec
      have hc := isAtm_in (ha x4 a0 (by omega))
      unfold pw_spell
      refine ⟨fun _ => ?_, fun z => absurd (show c ≠ 0 by omega) z⟩
      intro s es _ _ _ y1 ey1 s2 es2 _ _ y2 ey2 _
      have s18 : s2 = x4 - a := by rw [es2, ey1]; exact y18
      have s17 : s = x4 - a := es.trans y18
      have g1 : GZ f7Wd y y1 := by rw [ey1]; exact GZ_eq (GZ.rf gy.1 gy.2.1) (fun k hk => ⟨rfl, if_neg (by omega)⟩) rfl (Fx_A (by decide))
      have g2 : GZ f7Wd y1 y2 := by rw [ey2]; exact GZ_eq (GZ.rf g1.1 g1.2.1) (fun k hk => ⟨if_neg (by omega), rfl⟩) rfl (Fx_I (by decide))
      have e18 : y2.1 18 = x4 - a + 1 := by rw [ey2, s18]; rfl
      refine ⟨rfl, by omega, by omega, (gy.tr g1).tr g2, by omega, ?_⟩
      rw [tw_snoc a0, ← ey]
      unfold wrd
      rw [e18, y18, show (x4 - a + 1).toNat = (x4 - a).toNat + 1 by omega, List.range_succ, List.map_append]
      have r17 : ∀ j, y2.2.1 17 j = if j = s then c else y.2.1 17 j := fun j => by rw [ey2, ey1]; rfl
      refine congr (congrArg (fun z w => z ++ w) (List.map_congr_left (fun i hi => ?_))) ?_
      · have := List.mem_range.mp hi
        rw [r17, if_neg (by omega)]
      · show [y2.2.1 17 (((x4 - a).toNat : Nat) : Int)] = _
        rw [r17, if_pos (by omega), ec]
  unfold pw_atom
  refine pw_atom_5_i (fun x1 x2 x3 x4 y => x1 = a ∧ x2 = b ∧ y = u ∧ a ≤ x4 ∧ x4 ≤ b ∧ (x3 ≠ 0 ↔ (tw u a x4).all Sp.isDig = true)) ?_ ⟨rfl, rfl, rfl, Int.le_refl _, ab, by rw [tw_nil (Int.le_refl _)]; exact ⟨fun _ => rfl, fun _ => by decide⟩⟩
  rintro x1 x2 x3 x4 y ⟨e1, e2, ey, a0, a1, hd⟩
  rw [e1, e2, ey]
  have snoc := tw_snoc (u := u) a0
  have hall : (tw u a (x4 + 1)).all Sp.isDig = ((tw u a x4).all Sp.isDig && Sp.isDig (u.2.1 13 x4)) := by rw [snoc, List.all_append]; simp
  unfold pw_atom_5b
  refine ⟨fun hle => ⟨fun hz => ?_, fun hz => ?_⟩, fun hlt => ⟨fun hz => ?_, fun hz => ?_⟩⟩
  · have hb : x4 = b := by omega
    rw [hb] at hd
    have hn : ¬ (tw u a b).all Sp.isDig = true := fun z => (hd.mpr z) hz
    intro _
    refine ⟨fun hl w ew => go135 hn hl w ew, fun hl => hq (-1) u rf (Or.inl ⟨?_, rfl⟩)⟩
    unfold Sp.atomO
    rw [if_neg hn, if_neg (by rw [tw_len]; omega)]
  · have hb : x4 = b := by omega
    rw [hb] at hd
    exact go50 (hd.mp hz)
  · intro _
    refine ⟨rfl, rfl, rfl, by omega, by omega, fun z => absurd rfl z, fun z => ?_⟩
    rw [hall, Bool.and_eq_true] at z
    exact absurd (hd.mpr z.1) (fun q => q hz)
  · intro _ _ c ec _
    refine p_isDigit (fun r hr => ⟨fun h0 => ?_, fun h0 => ?_⟩)
    · intro _
      refine ⟨rfl, rfl, rfl, by omega, by omega, fun z => absurd rfl z, fun z => ?_⟩
      rw [hall, ← ec, hr.f h0, Bool.and_false] at z
      cases z
    · intro _
      refine ⟨rfl, rfl, rfl, by omega, by omega, fun _ => ?_, fun _ => by decide⟩
      rw [hall, ← ec, hr.t h0, hd.mp hz]
      rfl
