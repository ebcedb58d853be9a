/-! the table of objects: its invariant -/
def slotF (a b : Int) : Int := wand (wushr (wadd (wadd (wmul a 40503) (wmul b 30011)) 7) 2) 8191
def hashF (f : Int → Int) : Nat → Int
  | 0 => 5
  | n + 1 => wadd (wmul 131 (hashF f n)) (f (n : Int))
def spellF (f : Int → Int) (n : Int) : Int := wand (hashF f n.toNat) 8191
def cnt (f : Int → Int) (c : Int) : Nat → Int
  | 0 => 0
  | n + 1 => cnt f c n + (if f (n : Int) = c then 1 else 0)
def slotv (u : iST) (k : Int) : Int := if u.2.1 0 k = -1 then slotF (wl2i (u.2.2 (u.2.1 1 k))) (wl2i (wlshr (u.2.2 (u.2.1 1 k)) 32)) else if u.2.1 0 k = -2 then spellF (fun i => u.2.1 9 (12 * u.2.1 1 k + i)) (u.2.1 10 (u.2.1 1 k)) else slotF (u.2.1 0 k) (u.2.1 1 k)
def KindOk (u : iST) (k : Int) : Prop := (u.2.1 0 k = -1 ∧ u.2.1 1 k = cnt (u.2.1 0) (-1) k.toNat ∧ 0 ≤ u.2.2 (u.2.1 1 k) ∧ u.2.2 (u.2.1 1 k) ≤ 4611686018427387903) ∨ (u.2.1 0 k = -2 ∧ u.2.1 1 k = cnt (u.2.1 0) (-2) k.toNat ∧ 0 ≤ u.2.1 10 (u.2.1 1 k) ∧ u.2.1 10 (u.2.1 1 k) ≤ 12) ∨ (0 ≤ u.2.1 0 k ∧ u.2.1 0 k < k ∧ 0 ≤ u.2.1 1 k ∧ u.2.1 1 k < k)
def NodeOk (u : iST) (k : Int) : Prop := KindOk u k ∧ 0 ≤ u.2.1 4 k ∧ u.2.1 4 k ≤ k ∧ -1 ≤ u.2.1 2 k ∧ u.2.1 2 k < k ∧ (u.2.1 2 k = -1 ∨ slotv u (u.2.1 2 k) = slotv u k) ∧ ∀ j, 0 ≤ j → j < k → slotv u j = slotv u k → j ≤ u.2.1 2 k
def HeadOk (u : iST) (h : Int) : Prop := -1 ≤ u.2.1 7 h ∧ u.2.1 7 h < u.1 8 ∧ (u.2.1 7 h = -1 ∨ slotv u (u.2.1 7 h) = h) ∧ ∀ j, 0 ≤ j → j < u.1 8 → slotv u j = h → j ≤ u.2.1 7 h
def TI (u : iST) : Prop := 44 ≤ u.1 8 ∧ u.1 8 ≤ 452000 ∧ u.1 6 ≤ 40000 ∧ u.1 11 ≤ 21000 ∧ u.1 6 = cnt (u.2.1 0) (-1) (u.1 8).toNat ∧ u.1 11 = cnt (u.2.1 0) (-2) (u.1 8).toNat ∧ (∀ k, 0 ≤ k → k < u.1 8 → NodeOk u k) ∧ (∀ h, 0 ≤ h → h < 8192 → HeadOk u h) ∧ (∀ k, 0 ≤ k → k < 44 → u.2.1 0 k = -2) ∧ ∀ j k, 0 ≤ j → j < k → k < u.1 8 → 0 ≤ u.2.1 0 j → u.2.1 0 k = u.2.1 0 j → u.2.1 1 k ≠ u.2.1 1 j
theorem wand_8191 (a : Int) : 0 ≤ wand a 8191 ∧ wand a 8191 < 8192 := by
  obtain ⟨j, hj, e⟩ := pk_andE (jI a) (m := jI 8191) 13 (by decide)
  unfold wand
  rw [e, nI_toInt (by omega)]
  omega
theorem slotF_r (a b : Int) : 0 ≤ slotF a b ∧ slotF a b < 8192 := wand_8191 _
theorem slotv_r (u : iST) (k : Int) : 0 ≤ slotv u k ∧ slotv u k < 8192 := by
  unfold slotv
  split
  · exact wand_8191 _
  · split
    · exact wand_8191 _
    · exact wand_8191 _
theorem cnt_congr {f g : Int → Int} {c : Int} : ∀ (n : Nat), (∀ i : Int, 0 ≤ i → i < n → f i = g i) → cnt f c n = cnt g c n
  | 0, _ => rfl
  | n + 1, h => by
    show cnt f c n + _ = cnt g c n + _
    rw [cnt_congr n (fun i h0 h1 => h i h0 (by omega)), h n (by omega) (by omega)]
theorem cnt_r (f : Int → Int) (c : Int) : ∀ n : Nat, 0 ≤ cnt f c n ∧ cnt f c n ≤ n
  | 0 => ⟨Int.le_refl _, Int.le_refl _⟩
  | n + 1 => by
    have h := cnt_r f c n
    show 0 ≤ cnt f c n + (if f (n : Int) = c then 1 else 0) ∧ cnt f c n + (if f (n : Int) = c then 1 else 0) ≤ ((n + 1 : Nat) : Int)
    split <;> omega
theorem cnt_mono (f : Int → Int) (c : Int) {a b : Nat} (h : a ≤ b) : cnt f c a ≤ cnt f c b := by
  induction b with
  | zero => rw [Nat.le_zero.mp h]; exact Int.le_refl _
  | succ b ih =>
    rcases Nat.lt_or_ge b a with h1 | h1
    · rw [show a = b + 1 from by omega]; exact Int.le_refl _
    · have := ih h1
      show cnt f c a ≤ cnt f c b + (if f (b : Int) = c then 1 else 0)
      split <;> omega
theorem cnt_lt (f : Int → Int) {c k : Int} {n : Nat} (h0 : 0 ≤ k) (h1 : k < n) (h : f k = c) : cnt f c k.toNat < cnt f c n := by
  have h2 := cnt_mono f c (a := k.toNat + 1) (b := n) (by omega)
  have h3 : cnt f c (k.toNat + 1) = cnt f c k.toNat + (if f (k.toNat : Int) = c then 1 else 0) := rfl
  rw [Int.toNat_of_nonneg h0, if_pos h] at h3
  omega
theorem hashF_congr {f g : Int → Int} : ∀ (n : Nat), (∀ i : Int, 0 ≤ i → i < n → f i = g i) → hashF f n = hashF g n
  | 0, _ => rfl
  | n + 1, h => by
    show wadd (wmul 131 (hashF f n)) (f (n : Int)) = wadd (wmul 131 (hashF g n)) (g (n : Int))
    rw [hashF_congr n (fun i h0 h1 => h i h0 (by omega)), h n (by omega) (by omega)]
/-- a state whose table has one object more -/
theorem TI_new {u w : iST} {h : Int} (hT : TI u) (hn : u.1 8 < 452000) (e8 : w.1 8 = u.1 8 + 1) (h6 : w.1 6 ≤ 40000) (h11 : w.1 11 ≤ 21000)
    (c6 : w.1 6 = cnt (w.2.1 0) (-1) (u.1 8 + 1).toNat) (c11 : w.1 11 = cnt (w.2.1 0) (-2) (u.1 8 + 1).toNat)
    (a0 : ∀ k, 0 ≤ k → k < u.1 8 → w.2.1 0 k = u.2.1 0 k) (a1 : ∀ k, 0 ≤ k → k < u.1 8 → w.2.1 1 k = u.2.1 1 k) (a2 : ∀ k, 0 ≤ k → k < u.1 8 → w.2.1 2 k = u.2.1 2 k) (a4 : ∀ k, 0 ≤ k → k < u.1 8 → w.2.1 4 k = u.2.1 4 k)
    (hs : ∀ k, 0 ≤ k → k < u.1 8 → slotv w k = slotv u k) (hk : ∀ k, 0 ≤ k → k < u.1 8 → KindOk w k) (hkn : KindOk w (u.1 8)) (hh : 0 ≤ w.2.1 4 (u.1 8) ∧ w.2.1 4 (u.1 8) ≤ u.1 8)
    (h0 : 0 ≤ h) (h1 : h < 8192) (hsn : slotv w (u.1 8) = h) (a2n : w.2.1 2 (u.1 8) = u.2.1 7 h) (a7 : ∀ j, w.2.1 7 j = if j = h then u.1 8 else u.2.1 7 j)
    (huq : 0 ≤ w.2.1 0 (u.1 8) → ∀ j, 0 ≤ j → j < u.1 8 → u.2.1 0 j = w.2.1 0 (u.1 8) → u.2.1 1 j ≠ w.2.1 1 (u.1 8)) : TI w := by
  obtain ⟨t1, t2, t3, t4, t5, t6, t7, t8, t9, t10⟩ := hT
  refine ⟨by omega, by omega, h6, h11, by rw [e8]; exact c6, by rw [e8]; exact c11, ?_, ?_, ?_, ?_⟩
  · intro k k0 k1
    by_cases e : k = u.1 8
    · subst e
      obtain ⟨q1, q2, q3, q4⟩ := t8 h h0 h1
      refine ⟨hkn, hh.1, hh.2, by rw [a2n]; exact q1, by rw [a2n]; exact q2, ?_, ?_⟩
      · rw [a2n, hsn]
        rcases q3 with q3 | q3
        · exact Or.inl q3
        · rcases Int.lt_or_le (u.2.1 7 h) 0 with z | z
          · exact Or.inl (by omega)
          · exact Or.inr (by rw [hs _ z q2]; exact q3)
      · intro j j0 j1 hj
        rw [a2n]
        exact q4 j j0 j1 (by rw [← hs j j0 j1, hj, hsn])
    · have k2 : k < u.1 8 := by omega
      obtain ⟨q1, q2, q3, q4, q5, q6, q7⟩ := t7 k k0 k2
      refine ⟨hk k k0 k2, by rw [a4 k k0 k2]; exact q2, by rw [a4 k k0 k2]; exact q3, by rw [a2 k k0 k2]; exact q4, by rw [a2 k k0 k2]; exact q5, ?_, ?_⟩
      · rw [a2 k k0 k2, hs k k0 k2]
        rcases q6 with q6 | q6
        · exact Or.inl q6
        · rcases Int.lt_or_le (u.2.1 2 k) 0 with z | z
          · exact Or.inl (by omega)
          · exact Or.inr (by rw [hs _ z (by omega)]; exact q6)
      · intro j j0 j1 hj
        rw [a2 k k0 k2]
        exact q7 j j0 j1 (by rw [← hs j j0 (by omega), hj, hs k k0 k2])
  · intro g g0 g1
    obtain ⟨q1, q2, q3, q4⟩ := t8 g g0 g1
    unfold HeadOk
    rw [a7 g, e8]
    by_cases e : g = h
    · rw [if_pos e]
      refine ⟨by omega, by omega, Or.inr (by rw [hsn, e]), fun j j0 j1 _ => by omega⟩
    · rw [if_neg e]
      refine ⟨q1, by omega, ?_, ?_⟩
      · rcases q3 with q3 | q3
        · exact Or.inl q3
        · rcases Int.lt_or_le (u.2.1 7 g) 0 with z | z
          · exact Or.inl (by omega)
          · exact Or.inr (by rw [hs _ z q2]; exact q3)
      · intro j j0 j1 hj
        by_cases ej : j = u.1 8
        · subst ej
          exact absurd (hj.symm.trans hsn) e
        · exact q4 j j0 (by omega) (by rw [← hs j j0 (by omega)]; exact hj)
  · intro k k0 k1
    rw [a0 k k0 (by omega)]
    exact t9 k k0 k1
  · intro j k j0 jk k1 hl he
    by_cases e : k = u.1 8
    · subst e
      rw [a0 j j0 jk] at hl he
      rw [a1 j j0 jk]
      exact fun z => huq (by rw [he]; exact hl) j j0 jk he.symm z.symm
    · have k2 : k < u.1 8 := by omega
      rw [a0 j j0 (by omega)] at hl he
      rw [a0 k (by omega) k2] at he
      rw [a1 j j0 (by omega), a1 k (by omega) k2]
      exact t10 j k j0 jk k2 hl he
