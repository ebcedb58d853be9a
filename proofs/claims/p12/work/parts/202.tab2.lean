/-! the table's methods -/
theorem s_slot {a b : Int} {Q : Int → iST → Prop} {u : iST} (h : Q (slotF a b) u) : w_slot a b Q u := by
  unfold w_slot
  exact rd_i fun _ => rd_i fun _ => rd_i fun _ => rd_i fun _ => rd_i fun _ => rd_i fun _ => h
theorem wadd_eq {a b : Int} (h0 : -2147483648 ≤ a + b) (h1 : a + b < 2147483648) : wadd a b = a + b := by
  unfold wadd
  rw [jI_add, jI_toInt ⟨h0, h1⟩]
theorem s_spelled {a n z : Int} {Q : Int → iST → Prop} {u : iST} (n0 : 0 ≤ n) (n1 : n ≤ 12) (ha : z = 0 → 0 ≤ a ∧ a + n ≤ 252000) (h : Q (spellF (fun i => if z = 0 then u.2.1 9 (a + i) else u.2.1 17 i) n) u) : w_spelled a n z Q u := by
  unfold w_spelled w_spelled_6
  refine lf5 (B := fun R x1 x2 x3 x4 x5 u => w_spelled_6b R Q x1 x2 x3 x4 x5 u) (fun x1 x2 x3 x4 x5 v => v = u ∧ x1 = a ∧ x2 = n ∧ x3 = z ∧ 0 ≤ x5 ∧ x5 ≤ n ∧ x4 = hashF (fun i => if z = 0 then u.2.1 9 (a + i) else u.2.1 17 i) x5.toNat) (fun _ x2 _ _ x5 _ => (x2 - x5).toNat) ?_ ⟨rfl, rfl, rfl, rfl, by omega, n0, rfl⟩
  intro x1 x2 x3 x4 x5 v hI R ih
  obtain ⟨rfl, rfl, rfl, rfl, h0, h1, h4⟩ := hI
  unfold w_spelled_6b
  have hstep : ∀ y : Int, (if x3 = 0 then v.2.1 9 (x1 + x5) else v.2.1 17 x5) = y → hashF (fun i => if x3 = 0 then v.2.1 9 (x1 + i) else v.2.1 17 i) (x5 + 1).toNat = wadd (wmul 131 x4) y := by
    intro y hy
    rw [show (x5 + 1).toNat = x5.toNat + 1 from by omega, h4]
    show wadd _ (if x3 = 0 then v.2.1 9 (x1 + (x5.toNat : Int)) else v.2.1 17 (x5.toNat : Int)) = _
    rw [Int.toNat_of_nonneg h0, hy]
  refine br_i (fun hc => rd_i fun _ => ?_) (fun hc => rd_i fun _ => br_i (fun hz => ?_) (fun hz => ?_))
  · have e : x5 = x2 := by omega
    subst e
    rw [h4]
    exact h
  · have ha2 := ha hz
    have e : wadd x1 x5 = x1 + x5 := wadd_eq (by omega) (by omega)
    refine rd_i fun _ => ?_
    rw [e]
    refine bd_i (by omega) (by omega) (rd_i fun _ => rd_i fun _ => ov_i (by omega) (by omega) ?_)
    refine ih _ _ _ _ _ _ ⟨rfl, rfl, rfl, rfl, by omega, by omega, ?_⟩ (by omega)
    rw [hstep (v.2.1 9 (x1 + x5)) (by rw [if_pos hz])]
  · refine bd_i h0 (by omega) (rd_i fun _ => rd_i fun _ => ov_i (by omega) (by omega) ?_)
    refine ih _ _ _ _ _ _ ⟨rfl, rfl, rfl, rfl, by omega, by omega, ?_⟩ (by omega)
    rw [hstep (v.2.1 17 x5) (by rw [if_neg hz])]
theorem s_value {k : Int} {Q : Int → iST → Prop} {u : iST} (k0 : 0 ≤ k) (k1 : k < 452000) (r0 : 0 ≤ u.2.1 1 k) (r1 : u.2.1 1 k < 40000) (h : inL (u.2.2 (u.2.1 1 k)) → Q (u.2.2 (u.2.1 1 k)) u) : w_value k Q u := by
  unfold w_value
  exact bd_i k0 k1 (rd_i fun _ => bd_i r0 r1 (rl_i fun hl => h hl))
/-- what slotOf needs to know of an object -/
def SlotOk (u : iST) (k : Int) : Prop := (u.2.1 0 k = -1 → 0 ≤ u.2.1 1 k ∧ u.2.1 1 k < 40000) ∧ (u.2.1 0 k = -2 → 0 ≤ u.2.1 1 k ∧ u.2.1 1 k < 21000 ∧ 0 ≤ u.2.1 10 (u.2.1 1 k) ∧ u.2.1 10 (u.2.1 1 k) ≤ 12)
theorem s_slotOf {k : Int} {Q : Int → iST → Prop} {u : iST} (k0 : 0 ≤ k) (k1 : k < 452000) (hk : SlotOk u k) (h : Q (slotv u k) u) : w_slotOf k Q u := by
  unfold slotv at h
  unfold w_slotOf
  refine bd_i k0 k1 (rd_i fun _ => br_i (fun h1 => ?_) (fun h1 => ?_))
  · rw [if_neg h1] at h
    refine bd_i k0 k1 (rd_i fun _ => br_i (fun h2 => ?_) (fun h2 => ?_))
    · rw [if_neg h2] at h
      exact bd_i k0 k1 (rd_i fun _ => bd_i k0 k1 (rd_i fun _ => s_slot h))
    · have h2 : u.2.1 0 k = -2 := by omega
      rw [if_pos h2] at h
      obtain ⟨q1, q2, q3, q4⟩ := hk.2 h2
      refine bd_i k0 k1 (rd_i fun _ => ov_i (by omega) (by omega) (bd_i k0 k1 (rd_i fun _ => bd_i q1 q2 (rd_i fun _ => ?_))))
      exact s_spelled q3 q4 (fun _ => by omega) (by simpa using h)
  · have h1 : u.2.1 0 k = -1 := by omega
    rw [if_pos h1] at h
    obtain ⟨q1, q2⟩ := hk.1 h1
    exact s_value k0 k1 q1 q2 fun _ => rd_i fun _ => s_value k0 k1 q1 q2 fun _ => rl_i fun _ => rd_i fun _ => s_slot h
theorem TI.node {u : iST} (hT : TI u) {k : Int} (k0 : 0 ≤ k) (k1 : k < u.1 8) : NodeOk u k := hT.2.2.2.2.2.2.1 k k0 k1
theorem TI.head {u : iST} (hT : TI u) {k : Int} (k0 : 0 ≤ k) (k1 : k < 8192) : HeadOk u k := hT.2.2.2.2.2.2.2.1 k k0 k1
theorem TI.kind {u : iST} (hT : TI u) {k : Int} (k0 : 0 ≤ k) (k1 : k < u.1 8) : KindOk u k := (hT.node k0 k1).1
theorem TI.nat {u : iST} (hT : TI u) {k : Int} (k0 : 0 ≤ k) (k1 : k < u.1 8) (h : u.2.1 0 k = -1) : 0 ≤ u.2.1 1 k ∧ u.2.1 1 k < u.1 6 ∧ u.2.1 1 k < 40000 ∧ 0 ≤ u.2.2 (u.2.1 1 k) ∧ u.2.2 (u.2.1 1 k) ≤ 4611686018427387903 := by
  have hk := hT.kind k0 k1
  have h1 := hT.2.2.2.2.1
  have h2 := hT.2.2.1
  have h3 := cnt_lt (u.2.1 0) (n := (u.1 8).toNat) k0 (by omega) h
  have h4 := cnt_r (u.2.1 0) (-1) k.toNat
  unfold KindOk at hk
  omega
theorem TI.sym {u : iST} (hT : TI u) {k : Int} (k0 : 0 ≤ k) (k1 : k < u.1 8) (h : u.2.1 0 k = -2) : 0 ≤ u.2.1 1 k ∧ u.2.1 1 k < u.1 11 ∧ u.2.1 1 k < 21000 ∧ 0 ≤ u.2.1 10 (u.2.1 1 k) ∧ u.2.1 10 (u.2.1 1 k) ≤ 12 := by
  have hk := hT.kind k0 k1
  have h1 := hT.2.2.2.2.2.1
  have h2 := hT.2.2.2.1
  have h3 := cnt_lt (u.2.1 0) (n := (u.1 8).toNat) k0 (by omega) h
  have h4 := cnt_r (u.2.1 0) (-2) k.toNat
  unfold KindOk at hk
  omega
theorem TI.slot {u : iST} (hT : TI u) {k : Int} (k0 : 0 ≤ k) (k1 : k < u.1 8) : SlotOk u k := ⟨fun h => by have := hT.nat k0 k1 h; omega, fun h => by have := hT.sym k0 k1 h; omega⟩
theorem TI.pair {u : iST} (hT : TI u) {k : Int} (k0 : 0 ≤ k) (k1 : k < u.1 8) (h : 0 ≤ u.2.1 0 k) : u.2.1 0 k < k ∧ 0 ≤ u.2.1 1 k ∧ u.2.1 1 k < k := by
  have hk := hT.kind k0 k1
  unfold KindOk at hk
  omega
/-- the state behind added() -/
def uAdd (u : iST) (l r h x : Int) : iST := iI (iA (iA (iA (iA (iA (iA u 0 (u.1 8) l) 1 (u.1 8) r) 2 (u.1 8) (u.2.1 7 h)) 3 (u.1 8) 0) 4 (u.1 8) x) 7 h (u.1 8)) 8 (u.1 8 + 1)
theorem uAdd_s {u : iST} {l r h x : Int} (k : Nat) : (uAdd u l r h x).1 k = if k = 8 then u.1 8 + 1 else u.1 k := rfl
theorem uAdd_0 {u : iST} {l r h x : Int} (k : Int) : (uAdd u l r h x).2.1 0 k = if k = u.1 8 then l else u.2.1 0 k := by simp [uAdd, iI, iA]
theorem uAdd_1 {u : iST} {l r h x : Int} (k : Int) : (uAdd u l r h x).2.1 1 k = if k = u.1 8 then r else u.2.1 1 k := by simp [uAdd, iI, iA]
theorem uAdd_2 {u : iST} {l r h x : Int} (k : Int) : (uAdd u l r h x).2.1 2 k = if k = u.1 8 then u.2.1 7 h else u.2.1 2 k := by simp [uAdd, iI, iA]
theorem uAdd_3 {u : iST} {l r h x : Int} (k : Int) : (uAdd u l r h x).2.1 3 k = if k = u.1 8 then 0 else u.2.1 3 k := by simp [uAdd, iI, iA]
theorem uAdd_4 {u : iST} {l r h x : Int} (k : Int) : (uAdd u l r h x).2.1 4 k = if k = u.1 8 then x else u.2.1 4 k := by simp [uAdd, iI, iA]
theorem uAdd_7 {u : iST} {l r h x : Int} (k : Int) : (uAdd u l r h x).2.1 7 k = if k = h then u.1 8 else u.2.1 7 k := by simp [uAdd, iI, iA]
theorem uAdd_g {u : iST} {l r h x : Int} {g : Nat} (hg : g ≠ 0 ∧ g ≠ 1 ∧ g ≠ 2 ∧ g ≠ 3 ∧ g ≠ 4 ∧ g ≠ 7) : (uAdd u l r h x).2.1 g = u.2.1 g := by
  obtain ⟨h0, h1, h2, h3, h4, h7⟩ := hg
  simp [uAdd, iI, iA, h0, h1, h2, h3, h4, h7]
theorem uAdd_L {u : iST} {l r h x : Int} : (uAdd u l r h x).2.2 = u.2.2 := rfl
/-- the height that added() notes -/
def hgt (u : iST) (l r : Int) : Int := if 0 ≤ l then 1 + (if u.2.1 4 l ≤ u.2.1 4 r then u.2.1 4 r else u.2.1 4 l) else 0
theorem s_added {l r h : Int} {Q : Int → iST → Prop} {u : iST} (n0 : 0 ≤ u.1 8) (n1 : u.1 8 < 452000) (h0 : 0 ≤ h) (h1 : h < 8192) (hl : 0 ≤ l → l < u.1 8 ∧ 0 ≤ r ∧ r < u.1 8 ∧ 0 ≤ u.2.1 4 l ∧ u.2.1 4 l < 452000 ∧ 0 ≤ u.2.1 4 r ∧ u.2.1 4 r < 452000) (hq : Q (u.1 8) (uAdd u l r h (hgt u l r))) : w_added l r h Q u := by
  unfold w_added
  have e8 : ∀ x y : Int, x + 1 - 1 = x := by intro x y; omega
  refine rd_i fun _ => bd_i n0 n1 (sw_i (rd_i fun _ => bd_i n0 n1 (sw_i (rd_i fun _ => bd_i h0 h1 (rd_i fun _ => bd_i n0 n1 (sw_i (rd_i fun _ => bd_i n0 n1 (sw_i (rd_i fun _ => br_i (fun hc => ?_) (fun hc => ?_))))))))))
  · obtain ⟨q1, q2, q3, q4, q5, q6, q7⟩ := hl hc
    have q8 : 0 ≤ u.2.1 4 l := q4
    refine bd_i hc (by omega) (rd_i fun _ => bd_i q2 (by omega) (rd_i fun _ => br_i (fun hd => ?_) (fun hd => ?_)))
    · refine bd_i q2 (by omega) (rd_i fun _ => ?_)
      have hd : u.2.1 4 l ≤ u.2.1 4 r := hd
      have e : hgt u l r = 1 + u.2.1 4 r := by unfold hgt; rw [if_pos hc, if_pos hd]
      rw [e] at hq
      unfold w_added_92
      refine ov_i (show -2147483648 ≤ 1 + u.2.1 4 r by omega) (show 1 + u.2.1 4 r < 2147483648 by omega) ?_
      unfold w_added_93
      refine bd_i n0 n1 (sw_i (rd_i fun _ => bd_i h0 h1 (sw_i (rd_i fun _ => ov_i (show -2147483648 ≤ u.1 8 + 1 by omega) (show u.1 8 + 1 < 2147483648 by omega) (sw_i (rd_i fun _ => ov_i (show -2147483648 ≤ u.1 8 + 1 - 1 by omega) (show u.1 8 + 1 - 1 < 2147483648 by omega) ?_))))))
      show Q (u.1 8 + 1 - 1) _
      rw [e8 _ 0]
      exact hq
    · refine bd_i hc (by omega) (rd_i fun _ => ?_)
      have hd : ¬ u.2.1 4 l ≤ u.2.1 4 r := hd
      have e : hgt u l r = 1 + u.2.1 4 l := by unfold hgt; rw [if_pos hc, if_neg hd]
      rw [e] at hq
      unfold w_added_92
      refine ov_i (show -2147483648 ≤ 1 + u.2.1 4 l by omega) (show 1 + u.2.1 4 l < 2147483648 by omega) ?_
      unfold w_added_93
      refine bd_i n0 n1 (sw_i (rd_i fun _ => bd_i h0 h1 (sw_i (rd_i fun _ => ov_i (show -2147483648 ≤ u.1 8 + 1 by omega) (show u.1 8 + 1 < 2147483648 by omega) (sw_i (rd_i fun _ => ov_i (show -2147483648 ≤ u.1 8 + 1 - 1 by omega) (show u.1 8 + 1 - 1 < 2147483648 by omega) ?_))))))
      show Q (u.1 8 + 1 - 1) _
      rw [e8 _ 0]
      exact hq
  · have e : hgt u l r = 0 := by unfold hgt; rw [if_neg hc]
    rw [e] at hq
    unfold w_added_93
    refine bd_i n0 n1 (sw_i (rd_i fun _ => bd_i h0 h1 (sw_i (rd_i fun _ => ov_i (show -2147483648 ≤ u.1 8 + 1 by omega) (show u.1 8 + 1 < 2147483648 by omega) (sw_i (rd_i fun _ => ov_i (show -2147483648 ≤ u.1 8 + 1 - 1 by omega) (show u.1 8 + 1 - 1 < 2147483648 by omega) ?_))))))
    show Q (u.1 8 + 1 - 1) _
    rw [e8 _ 0]
    exact hq
