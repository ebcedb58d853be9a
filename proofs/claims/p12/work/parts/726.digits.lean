-- deps: 725
/-! the class: digits, letters -/
theorem wl2i_k [DecidableEq Ob] {x : Int} (h0 : 0 ≤ x) (h1 : x < 1000) : wl2i x = x := by
  have e := nN64_pos h0 (by omega)
  unfold nN64 at e
  have e2 := i32_nat (jL x)
  unfold wl2i
  show (jL x).toInt32.toBitVec.toInt = x
  rw [BitVec.toInt_eq_toNat_cond, if_pos (by omega)]
  omega
theorem wland_k [DecidableEq Ob] {a : Int} (h0 : 0 ≤ a) (h1 : a < 9223372036854775808) : wland a 4611686018427387903 = a % 4611686018427387904 := by
  have e := nN64_pos h0 (by omega)
  have q : nN64 (wland a 4611686018427387903) = a.toNat % 4611686018427387904 := by
    unfold nN64 wland
    rw [jL_of]
    show ((jL a).toBitVec &&& (jL 4611686018427387903).toBitVec).toNat = _
    rw [BitVec.toNat_and]
    have e2 : (jL 4611686018427387903).toBitVec.toNat = 2 ^ 62 - 1 := by decide
    unfold nN64 at e
    have e3 : (jL a).toBitVec.toNat = a.toNat := by omega
    rw [e2, e3, Nat.and_two_pow_sub_one_eq_mod]
  have e5 : (jL (wland a 4611686018427387903)).toInt = wland a 4611686018427387903 := by
    unfold wland
    rw [jL_of]
  have e6 : (jL (wland a 4611686018427387903)).toBitVec.toInt = wland a 4611686018427387903 := e5
  unfold nN64 at q
  rw [BitVec.toInt_eq_toNat_cond, if_pos (by omega)] at e6
  omega
/-- p digits of n -/
def dD [DecidableEq Ob] (b : Nat) (χ : Nat → Int) : Nat → Nat → List Int | 0, _ => [] | p + 1, n => dD b χ p (n / b) ++ [χ (n % b)]
theorem dD_len [DecidableEq Ob] (b : Nat) (χ : Nat → Int) : ∀ p n : Nat, (dD b χ p n).length = p
  | 0, _ => rfl
  | p + 1, n => by
    show (dD b χ p (n / b) ++ [χ (n % b)]).length = p + 1
    rw [List.length_append, dD_len b χ p]; rfl
theorem dD_get [DecidableEq Ob] (b : Nat) (χ : Nat → Int) : ∀ (p n i : Nat), i < p → (dD b χ p n)[i]? = some (χ (n / b ^ (p - 1 - i) % b))
  | 0, _, _, h => by omega
  | p + 1, n, i, h => by
    show (dD b χ p (n / b) ++ [χ (n % b)])[i]? = _
    by_cases c : i < p
    · rw [List.getElem?_append_left (by rw [dD_len]; exact c), dD_get b χ p (n / b) i c, Nat.div_div_eq_div_mul, show b * b ^ (p - 1 - i) = b ^ (p + 1 - 1 - i) by rw [Nat.mul_comm, ← Nat.pow_succ]; congr 1; omega]
    · have e : i = p := by omega
      rw [List.getElem?_append_right (by rw [dD_len]; omega), dD_len, e, Nat.sub_self, show p + 1 - 1 - p = 0 by omega, Nat.pow_zero, Nat.div_one]
      rfl
theorem dU_dD [DecidableEq Ob] : ∀ (j n : Nat), dU n j = dD 10 (fun d => 48 + (d : Int)) (j + 1) n
  | 0, n => by
    show [48 + ((n / 10 ^ 0 % 10 : Nat) : Int)] = [] ++ [48 + ((n % 10 : Nat) : Int)]
    rw [Nat.pow_zero, Nat.div_one]; rfl
  | j + 1, n => by rw [dU_step, dU_dD j (n / 10)]; rfl
theorem pow_lt' [DecidableEq Ob] {b p q n : Nat} (hb : 1 < b) (h1 : b ^ p ≤ n) (h2 : n < b ^ q) : p < q := (Nat.pow_lt_pow_iff_right hb).mp (Nat.lt_of_le_of_lt h1 h2)
theorem nat_dD [DecidableEq Ob] {n p : Nat} (hn : n < 4611686018427387904) (h1 : n < 10 ^ p) (h2 : p = 1 ∨ 10 ^ (p - 1) ≤ n) (hp : 1 ≤ p) : Ob.dg 20 n = dD 10 (fun d => 48 + (d : Int)) p n := by
  obtain ⟨j, rfl⟩ : ∃ j, p = j + 1 := ⟨p - 1, by omega⟩
  have hj : j < 20 := by
    rcases h2 with q | q
    · omega
    · have : n < 10 ^ 19 := Nat.lt_trans hn (by decide)
      have := pow_lt' (by decide) q this
      omega
  rw [← dU_dD]
  exact dg_dU j 20 n hj h1 (by rcases h2 with q | q; (left; omega); (right; exact q))
theorem wdF_dD [DecidableEq Ob] : ∀ (p k n : Nat), p ≤ k → n < 47 ^ p → (p = 0 ∨ 47 ^ (p - 1) ≤ n) → wdF k n = dD 47 alC p n
  | 0, k, n, _, h, _ => by
    have h : n < 1 := h
    have e : n = 0 := by omega
    rw [e]
    cases k with
    | zero => rfl
    | succ k => rfl
  | p + 1, k, n, hk, h, h2 => by
    have h2 : 47 ^ p ≤ n := h2.resolve_left (by omega)
    have p1 : 1 ≤ 47 ^ p := Nat.one_le_pow _ _ (by decide)
    obtain ⟨k', rfl⟩ : ∃ k', k = k' + 1 := ⟨k - 1, by omega⟩
    show (if n = 0 then [] else wdF k' (n / 47) ++ [alC (n % 47)]) = _
    rw [Nat.pow_succ] at h
    rw [if_neg (by omega), wdF_dD p k' (n / 47) (by omega) (Nat.div_lt_of_lt_mul (by omega)) ?_]
    · rfl
    · by_cases c : p = 0
      · exact Or.inl c
      · right
        obtain ⟨q, rfl⟩ : ∃ q, p = q + 1 := ⟨p - 1, by omega⟩
        rw [Nat.pow_succ] at h2
        show 47 ^ q ≤ n / 47
        exact (Nat.le_div_iff_mul_le (by decide)).mpr h2
theorem cdF_lt [DecidableEq Ob] : ∀ (k n : Nat), cdF k n → n < 47 ^ k
  | 0, n, h => by
    have h : n = 0 := h
    rw [h]; decide
  | k + 1, n, h => by
    have p1 : 1 ≤ 47 ^ k := Nat.one_le_pow _ _ (by decide)
    rw [Nat.pow_succ]
    rcases h with h | h
    · rw [h]; omega
    · have := cdF_lt k _ h.2
      omega
theorem sym_dD [DecidableEq Ob] {n p : Nat} (hc : cdOk n) (h1 : n < 47 ^ p) (h2 : p = 1 ∨ 47 ^ (p - 1) ≤ n) (hp : 1 ≤ p) : wdC n = dD 47 alC p n := by
  have hn := cdF_lt 11 n hc.2
  have n0 := hc.1
  have h3 : 47 ^ (p - 1) ≤ n := by
    rcases h2 with q | q
    · rw [q]; show 1 ≤ n; omega
    · exact q
  have := pow_lt' (by decide) h3 hn
  exact wdF_dD p 11 n (by omega) h1 (Or.inr h3)
theorem alK_alC [DecidableEq Ob] : ∀ d : Nat, d < 47 → alK (d : Int) = alC d := by decide
theorem wi2c_dg [DecidableEq Ob] : ∀ d : Nat, d < 10 → wi2c (48 + (d : Int)) = 48 + (d : Int) := by decide
/-! letters -/
def f8L (k : Nat) : Bool := decide (54 ≤ k ∧ k ≤ 56)
def LtC [DecidableEq Ob] (th : Int) (u : iST) : List Int := (List.range (u.2.1 54 th).toNat).map (fun i : Nat => u.2.1 55 (2000 * th + (i : Int)))
theorem LtC_len [DecidableEq Ob] (th : Int) (u : iST) : (LtC th u).length = (u.2.1 54 th).toNat := by unfold LtC; simp
theorem LtC_get [DecidableEq Ob] {th : Int} {u : iST} {i : Nat} (h : i < (u.2.1 54 th).toNat) : (LtC th u)[i]? = some (u.2.1 55 (2000 * th + (i : Int))) := by
  unfold LtC
  rw [List.getElem?_map, List.getElem?_range h]; rfl
theorem slen_low [DecidableEq Ob] (th : Int) : 200 ≤ slenI th ∧ slenI th ≤ 2000 := by unfold slenI; split <;> omega
/-- l was told by scribe th -/
def TlC [DecidableEq Ob] (th : Int) (u v : iST) (l : List Int) : Prop := CG f80 f8L u v ∧ v.2.2 = u.2.2 ∧ (0 ≤ v.2.1 54 th ∧ v.2.1 54 th ≤ slenI th) ∧ LtC th v = (LtC th u ++ l).take (slenI th).toNat ∧ (∀ j, j ≠ th → v.2.1 54 j = u.2.1 54 j) ∧ ∀ j, (j < 2000 * th ∨ 2000 * th + 2000 ≤ j) → v.2.1 55 j = u.2.1 55 j
theorem TlC.tr [DecidableEq Ob] {th : Int} {u v w : iST} {l m : List Int} (h : TlC th u v l) (g : TlC th v w m) : TlC th u w (l ++ m) := by
  obtain ⟨h1, h2, h3, h4, h5, h6⟩ := h
  obtain ⟨g1, g2, g3, g4, g5, g6⟩ := g
  exact ⟨h1.tr g1, g2.trans h2, g3, by rw [g4, h4, take_app, List.append_assoc], fun j hj => (g5 j hj).trans (h5 j hj), fun j hj => (g6 j hj).trans (h6 j hj)⟩
theorem TlC.rf [DecidableEq Ob] {th : Int} {u : iST} (hT : CT u) (h : 0 ≤ u.2.1 54 th ∧ u.2.1 54 th ≤ slenI th) : TlC th u u [] := by
  refine ⟨CG.rf hT, rfl, h, ?_, fun _ _ => rfl, fun _ _ => rfl⟩
  rw [List.append_nil, List.take_of_length_le]
  rw [LtC_len]
  omega
theorem LtC_app [DecidableEq Ob] {th : Int} {u v : iST} {l : List Int} (h : 0 ≤ u.2.1 54 th ∧ u.2.1 54 th ≤ slenI th) (hv : v.2.1 54 th = if u.2.1 54 th + (l.length : Int) < slenI th then u.2.1 54 th + (l.length : Int) else slenI th) (h1 : ∀ i, 0 ≤ i → i < u.2.1 54 th → v.2.1 55 (2000 * th + i) = u.2.1 55 (2000 * th + i)) (h2 : ∀ i : Nat, i < l.length → u.2.1 54 th + (i : Int) < slenI th → l[i]? = some (v.2.1 55 (2000 * th + (u.2.1 54 th + (i : Int))))) : LtC th v = (LtC th u ++ l).take (slenI th).toNat := by
  have hs := slen_low th
  refine List.ext_getElem? (fun j => ?_)
  rw [List.getElem?_take]
  by_cases c : (j : Int) < v.2.1 54 th
  · have cj : (j : Int) < slenI th ∧ (j : Int) < u.2.1 54 th + (l.length : Int) := by
      rw [hv] at c
      split at c <;> omega
    rw [LtC_get (by omega), if_pos (by omega)]
    by_cases d : (j : Int) < u.2.1 54 th
    · rw [List.getElem?_append_left (by rw [LtC_len]; omega), LtC_get (by omega), h1 j (by omega) d]
    · rw [List.getElem?_append_right (by rw [LtC_len]; omega), LtC_len]
      have := h2 (j - (u.2.1 54 th).toNat) (by omega) (by omega)
      rw [this, show u.2.1 54 th + ((j - (u.2.1 54 th).toNat : Nat) : Int) = (j : Int) by omega]
  · rw [List.getElem?_eq_none (by rw [LtC_len]; omega)]
    by_cases d : j < (slenI th).toNat
    · rw [if_pos d, List.getElem?_eq_none]
      rw [List.length_append, LtC_len]
      rw [hv] at c
      split at c <;> omega
    · rw [if_neg d]
