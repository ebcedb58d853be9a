-- deps: 7825
/-! the class: atoms are read -/
theorem wlor_sym [DecidableEq Ob] {x : Int} (h0 : 0 ≤ x) (h1 : x < 4611686018427387904) : wlor 4611686018427387904 x = 4611686018427387904 + x := by
  have e0 : nN64 4611686018427387904 = 2 ^ 62 := by decide
  have e2 := nN64_pos h0 (show x < 9223372036854775808 by omega)
  have o1 : (2 ^ 62 ||| x.toNat : Nat) = 2 ^ 62 + x.toNat := by
    have q := Nat.two_pow_add_eq_or_of_lt (i := 62) (b := x.toNat) (by omega) 1
    rw [Nat.mul_one] at q
    exact q.symm
  have e4 : nN64 (wlor 4611686018427387904 x) = 2 ^ 62 + x.toNat := by rw [nN64_or, e0, e2, o1]
  unfold nN64 at e4
  have e5 : (jL (wlor 4611686018427387904 x)).toInt = wlor 4611686018427387904 x := by
    unfold wlor
    rw [jL_of]
  have e6 : (jL (wlor 4611686018427387904 x)).toBitVec.toInt = wlor 4611686018427387904 x := e5
  rw [← e6, BitVec.toInt_eq_toNat_cond, if_pos (by omega)]
  omega
theorem isAtm_Q [DecidableEq Ob] (c : Int) : Sp.isAtm c = atQ c := by
  unfold Sp.isAtm Sp.isDig atQ
  rfl
/-- letters of a text -/
def ChC [DecidableEq Ob] (u : iST) (n : Int) : Prop := ∀ i, 0 ≤ i → i < n → 0 ≤ u.2.1 44 i ∧ u.2.1 44 i < 256
theorem ixC [DecidableEq Ob] {c : Int} (h0 : 0 ≤ c) (h1 : c < 256) : (Sp.isAtm c = true → 1 ≤ ixK c ∧ ixK c < 47 ∧ alC (ixK c).toNat = c) ∧ (Sp.isAtm c = false → ixK c ≤ 0) := by
  have h := ix_all c.toNat (by omega)
  rw [show ((c.toNat : Nat) : Int) = c by omega] at h
  unfold ixQ at h
  rw [isAtm_Q]
  refine ⟨fun q => ?_, fun q => ?_⟩
  · rw [if_pos q, Bool.and_eq_true, Bool.and_eq_true] at h
    exact ⟨of_decide_eq_true h.1.1, of_decide_eq_true h.1.2, of_decide_eq_true h.2⟩
  · rw [if_neg (by rw [q]; decide)] at h
    exact of_decide_eq_true h
/-- the text from here on, so many letters -/
def txN [DecidableEq Ob] (u : iST) (a : Int) (n : Nat) : List Int := (List.range n).map (fun i : Nat => u.2.1 44 (a + (i : Int)))
theorem txN_len [DecidableEq Ob] (u : iST) (a : Int) (n : Nat) : (txN u a n).length = n := by unfold txN; simp
theorem txN_snoc [DecidableEq Ob] (u : iST) (a : Int) (n : Nat) : txN u a (n + 1) = txN u a n ++ [u.2.1 44 (a + (n : Int))] := by
  unfold txN
  rw [List.range_succ, List.map_append]
  rfl
theorem txN_cons [DecidableEq Ob] (u : iST) (a : Int) (n : Nat) : txN u a (n + 1) = u.2.1 44 a :: txN u (a + 1) n := by
  unfold txN
  rw [List.range_succ_eq_map, List.map_cons, List.map_map]
  refine congr (congrArg List.cons ?_) (List.map_congr_left (fun i _ => ?_))
  · rw [show a + ((0 : Nat) : Int) = a by omega]
  · show u.2.1 44 (a + ((i + 1 : Nat) : Int)) = u.2.1 44 (a + 1 + (i : Int))
    rw [show a + ((i + 1 : Nat) : Int) = a + 1 + (i : Int) by omega]
theorem txN_mem [DecidableEq Ob] {u : iST} {a : Int} {n : Nat} {c : Int} (h : c ∈ txN u a n) : ∃ i : Nat, i < n ∧ c = u.2.1 44 (a + (i : Int)) := by
  unfold txN at h
  obtain ⟨i, hi, e⟩ := List.mem_map.mp h
  exact ⟨i, List.mem_range.mp hi, e.symm⟩
theorem pc_atomEnd [DecidableEq Ob] {a b : Int} {Q : Int → iST → Prop} {u : iST} (hch : ChC u b) (a0 : 0 ≤ a) (ab : a ≤ b) (hq : ∀ e, a ≤ e → e ≤ b → (∀ i, a ≤ i → i < e → Sp.isAtm (u.2.1 44 i) = true) → (e < b → Sp.isAtm (u.2.1 44 e) = false) → Q e u) : pv_5_atomEnd a b Q u := by
  unfold pv_5_atomEnd
  refine pv_5_atomEnd_3_i (fun x3 x4 y => x3 = b ∧ y = u ∧ a ≤ x4 ∧ x4 ≤ b ∧ ∀ i, a ≤ i → i < x4 → Sp.isAtm (u.2.1 44 i) = true) ?_ ⟨rfl, rfl, Int.le_refl _, ab, fun i h1 h2 => by omega⟩
  rintro x3 x4 y ⟨b3, ey, h1, h2, hi⟩
  rw [b3, ey]
  unfold pv_5_atomEnd_3b
  refine ⟨fun q => hq x4 h1 h2 hi (fun z => by omega), fun q => ?_⟩
  intro _ _ v1 e1 _
  intro v2 hv2
  obtain ⟨c0, c1⟩ := hch x4 (by omega) (by omega)
  rw [← e1] at c0 c1
  obtain ⟨i1, i2⟩ := ixC c0 c1
  refine ⟨fun z => hq x4 h1 h2 hi (fun _ => bf_of (fun t => ?_)), fun z => ?_⟩
  · rw [← e1] at t
    have := (i1 t).1
    have := hv2.1
    omega
  · intro _
    refine ⟨rfl, rfl, by omega, by omega, fun i k1 k2 => ?_⟩
    by_cases c : i = x4
    · rw [c, ← e1]
      cases t : Sp.isAtm v1 with
      | true => rfl
      | false =>
        have := i2 t
        have := hv2.1
        omega
    · exact hi i k1 (by omega)
theorem pc_lineEnd [DecidableEq Ob] {a b : Int} {Q : Int → iST → Prop} {u : iST} (ab : a ≤ b) (hq : ∀ e, a ≤ e → e ≤ b → (∀ i, a ≤ i → i < e → u.2.1 44 i ≠ 10) → (e < b → u.2.1 44 e = 10) → Q e u) : pv_5_lineEnd a b Q u := by
  unfold pv_5_lineEnd
  refine pv_5_lineEnd_3_i (fun x3 x4 y => x3 = b ∧ y = u ∧ a ≤ x4 ∧ x4 ≤ b ∧ ∀ i, a ≤ i → i < x4 → u.2.1 44 i ≠ 10) ?_ ⟨rfl, rfl, Int.le_refl _, ab, fun i h1 h2 => by omega⟩
  rintro x3 x4 y ⟨b3, ey, h1, h2, hi⟩
  rw [b3, ey]
  unfold pv_5_lineEnd_3b
  refine ⟨fun q => hq x4 h1 h2 hi (fun z => by omega), fun q => ?_⟩
  intro _ _ v1 e1 _
  refine ⟨fun z => hq x4 h1 h2 hi (fun _ => by rw [← e1]; exact z), fun z => ?_⟩
  intro _
  refine ⟨rfl, rfl, by omega, by omega, fun i k1 k2 => ?_⟩
  by_cases c : i = x4
  · rw [c, ← e1]; exact z
  · exact hi i k1 (by omega)
/-- a word's code -/
def cdU [DecidableEq Ob] (u : iST) (a : Int) : Nat → Nat | 0 => 0 | n + 1 => 47 * cdU u a n + (ixK (u.2.1 44 (a + (n : Int)))).toNat
theorem cdU_word [DecidableEq Ob] {u : iST} {a : Int} : ∀ n : Nat, (∀ i : Nat, i < n → (1 ≤ ixK (u.2.1 44 (a + (i : Int))) ∧ ixK (u.2.1 44 (a + (i : Int))) < 47 ∧ alC (ixK (u.2.1 44 (a + (i : Int)))).toNat = u.2.1 44 (a + (i : Int)))) → cdU u a n < 47 ^ n ∧ (0 < n → cdU u a n ≠ 0) ∧ ∀ k, n ≤ k → wdF k (cdU u a n) = txN u a n ∧ cdF k (cdU u a n)
  | 0, _ => ⟨by show 0 < 1; decide, fun z => absurd z (Nat.lt_irrefl _), fun k _ => by
      cases k with
      | zero => exact ⟨rfl, rfl⟩
      | succ k => exact ⟨rfl, Or.inl rfl⟩⟩
  | n + 1, h => by
    obtain ⟨h1, h2, h3⟩ := cdU_word n (fun i hi => h i (by omega))
    obtain ⟨x1, x2, x3⟩ := h n (by omega)
    have es : cdU u a (n + 1) = 47 * cdU u a n + (ixK (u.2.1 44 (a + (n : Int)))).toNat := rfl
    generalize hd : (ixK (u.2.1 44 (a + (n : Int)))).toNat = d at es x3
    have d1 : 1 ≤ d := by omega
    have d2 : d < 47 := by omega
    have em : (47 * cdU u a n + d) % 47 = d := by omega
    have ed : (47 * cdU u a n + d) / 47 = cdU u a n := by omega
    rw [es]
    refine ⟨by rw [Nat.pow_succ]; omega, fun _ => by omega, fun k hk => ?_⟩
    cases k with
    | zero => omega
    | succ k =>
      obtain ⟨w1, w2⟩ := h3 k (by omega)
      refine ⟨?_, Or.inr ⟨by rw [em]; omega, by rw [ed]; exact w2⟩⟩
      show (if 47 * cdU u a n + d = 0 then [] else wdF k ((47 * cdU u a n + d) / 47) ++ [alC ((47 * cdU u a n + d) % 47)]) = _
      rw [if_neg (by omega), em, ed, w1, x3, txN_snoc]
theorem natOf_snoc [DecidableEq Ob] (c : Int) : ∀ (l : List Int) (v : Int), Sp.natOf (l ++ [c]) v = (match Sp.natOf l v with | some w => if w ≤ (4611686018427387903 - (c - 48)) / 10 then some (10 * w + (c - 48)) else none | none => none)
  | [], v => rfl
  | x :: l, v => by
    show (if v ≤ (4611686018427387903 - (x - 48)) / 10 then Sp.natOf (l ++ [c]) (10 * v + (x - 48)) else none) = (match (if v ≤ (4611686018427387903 - (x - 48)) / 10 then Sp.natOf l (10 * v + (x - 48)) else none) with | some w => if w ≤ (4611686018427387903 - (c - 48)) / 10 then some (10 * w + (c - 48)) else none | none => none)
    split
    · exact natOf_snoc c l _
    · rfl
/-- what a cell of an atom is -/
def atC [DecidableEq Ob] (c : Int) : Ob := if c < 4611686018427387904 then .nat c else .sym (wdC (c - 4611686018427387904).toNat)
theorem pc_atomCell [DecidableEq Ob] {a b m : Int} {Q : Int → iST → Prop} {u : iST} (hch : ChC u b) (a0 : 0 ≤ a) (ab : a < b) (hat : ∀ i, a ≤ i → i < b → Sp.isAtm (u.2.1 44 i) = true) (hq : ∀ r, (r < 0 ∧ Sp.atomO (txN u a (b - a).toNat) = none) ∨ (0 ≤ r ∧ CellOk m r ∧ Sp.atomO (txN u a (b - a).toNat) = some (atC r)) → Q r u) : pv_5_atomCell a b Q u := by
  have ix : ∀ i : Nat, (i : Int) < b - a → (1 ≤ ixK (u.2.1 44 (a + (i : Int))) ∧ ixK (u.2.1 44 (a + (i : Int))) < 47 ∧ alC (ixK (u.2.1 44 (a + (i : Int)))).toNat = u.2.1 44 (a + (i : Int))) := fun i hi => by
    obtain ⟨c0, c1⟩ := hch (a + (i : Int)) (by omega) (by omega)
    exact (ixC c0 c1).1 (hat _ (by omega) (by omega))
  unfold pv_5_atomCell
  refine pv_5_atomCell_15_i (fun x2 x3 x4 x6 x8 x9 x10 y => x2 = a ∧ x3 = b ∧ y = u ∧ ∃ n : Nat, x10 = a + (n : Int) ∧ (n : Int) ≤ b - a ∧ (x8 ≠ 0 ↔ (txN u a n).all Sp.isDig = true) ∧ (x8 ≠ 0 → (x9 = 0 → Sp.natOf (txN u a n) 0 = some x4 ∧ 0 ≤ x4 ∧ x4 ≤ 4611686018427387903) ∧ (x9 ≠ 0 → Sp.natOf (txN u a n) 0 = none)) ∧ (n ≤ 11 → x6 = (cdU u a n : Int))) ?_ ⟨rfl, rfl, rfl, 0, by omega, by omega, ⟨fun _ => rfl, fun _ => by decide⟩, fun _ => ⟨fun _ => ⟨rfl, by decide, by decide⟩, fun q => absurd rfl q⟩, fun _ => rfl⟩
  rintro x2 x3 x4 x6 x8 x9 x10 y ⟨b2, b3, ey, n, b10, hn, h8, h9, h6⟩
  rw [b2, b3, ey, b10]
  have hw := cdU_word n (fun i hi => ix i (by omega))
  unfold pv_5_atomCell_15b
  refine ⟨fun q => ?_, fun q => ?_⟩
  · have en : (b - a).toNat = n := by omega
    rw [en] at hq
    unfold Sp.atomO at hq
    refine ⟨fun q8 => ?_, fun q8 => ?_⟩
    · rw [if_neg (fun t => absurd q8 (h8.mpr t))] at hq
      intro _
      refine ⟨fun q11 => ?_, fun q11 => ?_⟩
      · have n11 : n ≤ 11 := by omega
        obtain ⟨w1, w2, w3⟩ := hw
        have hlt : cdU u a n < 4611686018427387904 := by
          have : 47 ^ n ≤ 47 ^ 11 := Nat.pow_le_pow_right (by decide) n11
          have e11 : (47 : Nat) ^ 11 = 2472159215084012303 := by decide
          omega
        rw [if_pos (by rw [txN_len]; exact n11)] at hq
        intro v2 e2 _
        rw [h6 n11, wlor_sym (by omega) (by omega)] at e2
        have ec : (v2 - 4611686018427387904).toNat = cdU u a n := by omega
        obtain ⟨w4, w5⟩ := w3 11 n11
        refine hq v2 (Or.inr ⟨by omega, ⟨fun z => by omega, fun _ => ⟨by omega, by rw [ec]; exact ⟨w2 (by omega), w5⟩⟩⟩, ?_⟩)
        unfold atC
        rw [if_neg (by omega), ec]
        show some (Ob.sym (txN u a n)) = some (Ob.sym (wdF 11 (cdU u a n)))
        rw [w4]
      · rw [if_neg (by rw [txN_len]; omega)] at hq
        exact hq (-1) (Or.inl ⟨by decide, rfl⟩)
    · rw [if_pos (h8.mp q8)] at hq
      refine ⟨fun q9 => ?_, fun q9 => ?_⟩
      · obtain ⟨k1, k2, k3⟩ := (h9 q8).1 q9
        rw [k1] at hq
        refine hq x4 (Or.inr ⟨k2, ⟨fun z => by omega, fun z => by omega⟩, ?_⟩)
        unfold atC
        rw [if_pos (by omega)]
        rfl
      · rw [(h9 q8).2 q9] at hq
        exact hq (-1) (Or.inl ⟨by decide, rfl⟩)
  intro _ _ v3 e3 _ _
  obtain ⟨c0, c1⟩ := hch (a + (n : Int)) (by omega) (by omega)
  obtain ⟨i1, i2, i3⟩ := ix n (by omega)
  rw [← e3] at c0 c1 i1 i2 i3
  have etx : txN u a (n + 1) = txN u a n ++ [v3] := by rw [txN_snoc, ← e3]
  have eall : (txN u a (n + 1)).all Sp.isDig = ((txN u a n).all Sp.isDig && Sp.isDig v3) := by
    rw [etx, List.all_append]
    show (_ && (Sp.isDig v3 && true)) = _
    rw [Bool.and_true]
  -- the code goes on
  have code : ∀ (y4 y8 y9 : Int), (y8 ≠ 0 ↔ (txN u a (n + 1)).all Sp.isDig = true) → (y8 ≠ 0 → (y9 = 0 → Sp.natOf (txN u a (n + 1)) 0 = some y4 ∧ 0 ≤ y4 ∧ y4 ≤ 4611686018427387903) ∧ (y9 ≠ 0 → Sp.natOf (txN u a (n + 1)) 0 = none)) → pv_5_atomCell_115 (fun x2 x3 x4 x6 x8 x9 x10 y => x2 = a ∧ x3 = b ∧ y = u ∧ ∃ n : Nat, x10 = a + (n : Int) ∧ (n : Int) ≤ b - a ∧ (x8 ≠ 0 ↔ (txN u a n).all Sp.isDig = true) ∧ (x8 ≠ 0 → (x9 = 0 → Sp.natOf (txN u a n) 0 = some x4 ∧ 0 ≤ x4 ∧ x4 ≤ 4611686018427387903) ∧ (x9 ≠ 0 → Sp.natOf (txN u a n) 0 = none)) ∧ (n ≤ 11 → x6 = (cdU u a n : Int))) Q a b y4 x6 y8 y9 (a + (n : Int)) v3 u := by
    intro y4 y8 y9 k8 k9
    unfold pv_5_atomCell_115
    intro v5 e5 _
    intro v6 hv6
    intro v8 e8 _ _
    refine ⟨rfl, rfl, rfl, n + 1, by omega, by omega, k8, k9, fun n11 => ?_⟩
    have hlt : cdU u a n < 2472159215084012303 := by
      have h1 := hw.1
      have : 47 ^ n ≤ 47 ^ 10 := Nat.pow_le_pow_right (by decide) (by omega)
      have e10 : (47 : Nat) ^ 10 = 52599132235830049 := by decide
      omega
    have hlt2 : cdU u a n < 52599132235830049 := by
      have h1 := hw.1
      have : 47 ^ n ≤ 47 ^ 10 := Nat.pow_le_pow_right (by decide) (by omega)
      have e10 : (47 : Nat) ^ 10 = 52599132235830049 := by decide
      omega
    have ex6 := h6 (by omega)
    have e5' : v5 = x6 * 47 := by rw [e5]; exact wlmulC ⟨by omega, by omega⟩
    have ev6 := hv6.1
    have e8' : v8 = v5 + v6 := by rw [e8]; exact wladd_eq ⟨by omega, by omega⟩
    show v8 = ((47 * cdU u a n + (ixK (u.2.1 44 (a + (n : Int)))).toNat : Nat) : Int)
    rw [← e3]
    omega
  have notdig : (¬ (x8 ≠ 0) ∨ Sp.isDig v3 = false) → pv_5_atomCell_57 (fun x2 x3 x4 x6 x8 x9 x10 y => x2 = a ∧ x3 = b ∧ y = u ∧ ∃ n : Nat, x10 = a + (n : Int) ∧ (n : Int) ≤ b - a ∧ (x8 ≠ 0 ↔ (txN u a n).all Sp.isDig = true) ∧ (x8 ≠ 0 → (x9 = 0 → Sp.natOf (txN u a n) 0 = some x4 ∧ 0 ≤ x4 ∧ x4 ≤ 4611686018427387903) ∧ (x9 ≠ 0 → Sp.natOf (txN u a n) 0 = none)) ∧ (n ≤ 11 → x6 = (cdU u a n : Int))) Q a b x4 x6 x9 (a + (n : Int)) v3 (v3 - 48) u := by
    intro h
    unfold pv_5_atomCell_57 pv_5_atomCell_58
    refine ⟨fun _ => code x4 0 x9 ⟨fun z => absurd rfl z, fun z => ?_⟩ (fun z => absurd rfl z), fun z => absurd rfl z⟩
    rw [eall, Bool.and_eq_true] at z
    rcases h with h | h
    · exact absurd (h8.mpr z.1) h
    · rw [h] at z; cases z.2
  have dg : ∀ c : Int, Sp.isDig c = true ↔ 48 ≤ c ∧ c ≤ 57 := fun c => by unfold Sp.isDig; exact decide_eq_true_iff
  refine ⟨fun q8 => notdig (Or.inl (fun z => z q8)), fun q8 => ⟨fun q1 => notdig (Or.inr (bf_of (fun z => by have := (dg v3).mp z; omega))), fun q1 => ⟨fun q2 => notdig (Or.inr (bf_of (fun z => by have := (dg v3).mp z; omega))), fun q2 => ?_⟩⟩⟩
  have hdig : Sp.isDig v3 = true := (dg v3).mpr ⟨by omega, by omega⟩
  have k8 : (1 : Int) ≠ 0 ↔ (txN u a (n + 1)).all Sp.isDig = true := ⟨fun _ => by rw [eall, h8.mp q8, hdig]; rfl, fun _ => by decide⟩
  have esn : Sp.natOf (txN u a (n + 1)) 0 = (match Sp.natOf (txN u a n) 0 with | some w => if w ≤ (4611686018427387903 - (v3 - 48)) / 10 then some (10 * w + (v3 - 48)) else none | none => none) := by rw [etx, natOf_snoc]
  have great : Sp.natOf (txN u a (n + 1)) 0 = none → pv_5_atomCell_87 (fun x2 x3 x4 x6 x8 x9 x10 y => x2 = a ∧ x3 = b ∧ y = u ∧ ∃ n : Nat, x10 = a + (n : Int) ∧ (n : Int) ≤ b - a ∧ (x8 ≠ 0 ↔ (txN u a n).all Sp.isDig = true) ∧ (x8 ≠ 0 → (x9 = 0 → Sp.natOf (txN u a n) 0 = some x4 ∧ 0 ≤ x4 ∧ x4 ≤ 4611686018427387903) ∧ (x9 ≠ 0 → Sp.natOf (txN u a n) 0 = none)) ∧ (n ≤ 11 → x6 = (cdU u a n : Int))) Q a b x4 x6 1 (a + (n : Int)) v3 (v3 - 48) u := by
    intro hno
    unfold pv_5_atomCell_87 pv_5_atomCell_92
    refine ⟨fun z => absurd z (by decide), fun _ => ?_⟩
    unfold pv_5_atomCell_113
    exact code 0 1 1 k8 (fun _ => ⟨fun z => absurd z (by decide), fun _ => hno⟩)
  unfold pv_5_atomCell_58
  refine ⟨fun z => absurd z (by decide), fun _ => ⟨fun q9 => great ?_, fun q9 => ?_⟩⟩
  · rw [esn, (h9 q8).2 q9]
  have q9 := Decidable.not_not.mp q9
  obtain ⟨k1, k2, k3⟩ := (h9 q8).1 q9
  intro v14 e14 _
  have d1 : 48 ≤ v3 := ((dg v3).mp hdig).1
  have d2 : v3 ≤ 57 := ((dg v3).mp hdig).2
  have e14' := digA d1 d2 e14
  have etd := digD d2 e14'
  refine ⟨by decide, fun qle => ?_, fun qle => great ?_⟩
  · rw [etd] at qle
    unfold pv_5_atomCell_92
    refine ⟨fun _ => ?_, fun z => absurd rfl z⟩
    intro v10 e10 _ v12 e12 _
    obtain ⟨f1, f2, f3⟩ := digB k2 k3 d1 d2 (digC.mp qle) e10 e12
    unfold pv_5_atomCell_113
    refine code v12 1 0 k8 (fun _ => ⟨fun _ => ⟨?_, f2, f3⟩, fun z => absurd rfl z⟩)
    rw [esn, k1]
    show (if x4 ≤ (4611686018427387903 - (v3 - 48)) / 10 then some (10 * x4 + (v3 - 48)) else none) = _
    rw [if_pos qle, f1]
  · rw [etd] at qle
    rw [esn, k1]
    show (if x4 ≤ (4611686018427387903 - (v3 - 48)) / 10 then some (10 * x4 + (v3 - 48)) else none) = _
    rw [if_neg qle]
