/-! cells of pairs, by their bits -/
def nN64 (x : Int) : Nat := (jL x).toBitVec.toNat
def cL (v : Int) : Int := wand (wl2i (wlushr v 31)) 2147483647
def cR (v : Int) : Int := wand (wl2i v) 2147483647
def cSl (v : Int) : Int := wl2i (wlushr (wlmul v (-7046029254386353131)) 49)
theorem nN64_or (a b : Int) : nN64 (wlor a b) = nN64 a ||| nN64 b := by
  unfold nN64 wlor
  rw [jL_of]
  show ((jL a).toBitVec ||| (jL b).toBitVec).toNat = _
  exact BitVec.toNat_or _ _
theorem nN64_ushr (a : Int) (k : Nat) (s : Int) (hs : (((jI s).toInt64.toUInt64 &&& Int64.toUInt64 63).toBitVec % 64).toNat = k) : nN64 (wlushr a s) = nN64 a / 2 ^ k := by
  unfold nN64 wlushr
  rw [jL_of]
  show ((jL a).toBitVec >>> (((jI s).toInt64.toUInt64 &&& Int64.toUInt64 63).toBitVec % 64)).toNat = _
  rw [BitVec.ushiftRight_eq', BitVec.toNat_ushiftRight, Nat.shiftRight_eq_div_pow, hs]
theorem i32_nat (x : Int64) : x.toInt32.toBitVec.toNat = x.toBitVec.toNat % 2 ^ 32 := by
  show (x.toBitVec.signExtend 32).toNat = _
  rw [BitVec.signExtend_eq_setWidth_of_le _ (by decide), BitVec.toNat_setWidth]
theorem and31 (x : Int64) : wand x.toInt32.toInt 2147483647 = ((x.toBitVec.toNat % 2 ^ 31 : Nat) : Int) := by
  unfold wand
  rw [jI_of, pk_and x.toInt32 (m := jI 2147483647) 31 (by decide), i32_nat, nI_toInt (by omega)]
  omega
theorem cR_nat (v : Int) : cR v = ((nN64 v % 2 ^ 31 : Nat) : Int) := by
  unfold cR wl2i nN64
  exact and31 (jL v)
theorem cL_nat (v : Int) : cL v = ((nN64 v / 2 ^ 31 % 2 ^ 31 : Nat) : Int) := by
  have e := nN64_ushr v 31 31 (by decide)
  unfold cL wl2i
  rw [and31 (jL (wlushr v 31))]
  unfold nN64 at e
  unfold nN64
  rw [e]
theorem cL_r (v : Int) : 0 ≤ cL v ∧ cL v < 2147483648 := by
  rw [cL_nat]; omega
theorem cR_r (v : Int) : 0 ≤ cR v ∧ cR v < 2147483648 := by
  rw [cR_nat]; omega
theorem nN64_lt (x : Int) : nN64 x < 2 ^ 64 := (jL x).toBitVec.isLt
theorem cSl_r (v : Int) : 0 ≤ cSl v ∧ cSl v < 32768 := by
  unfold cSl
  generalize wlmul v (-7046029254386353131) = w
  have e := nN64_ushr w 49 49 (by decide)
  have hl := nN64_lt w
  have h1 : nN64 (wlushr w 49) < 32768 := by omega
  unfold wl2i
  have e2 := i32_nat (jL (wlushr w 49))
  unfold nN64 at h1
  have h3 : (jL (wlushr w 49)).toInt32.toBitVec.toNat < 32768 := by omega
  have e4 : (jL (wlushr w 49)).toInt32.toInt = ((jL (wlushr w 49)).toInt32.toBitVec.toNat : Int) := by
    show (jL (wlushr w 49)).toInt32.toBitVec.toInt = _
    rw [BitVec.toInt_eq_toNat_cond, if_pos (by omega)]
  rw [e4]
  omega
theorem nN64_pos {x : Int} (h0 : 0 ≤ x) (h1 : x < 9223372036854775808) : nN64 x = x.toNat := by
  have e : (jL x).toInt = x := jL_toInt ⟨by omega, h1⟩
  have e2 : (jL x).toBitVec.toInt = x := e
  unfold nN64
  rw [BitVec.toInt_eq_toNat_cond] at e2
  have hl := (jL x).toBitVec.isLt
  split at e2 <;> omega
theorem shl31 {l : Int} (h0 : 0 ≤ l) (h1 : l < 2147483648) : nN64 (wlshl l 31) = 2 ^ 31 * l.toNat := by
  have e := nN64_pos h0 (by omega)
  unfold nN64 at *
  unfold wlshl
  rw [jL_of]
  have q : (jL l <<< ((jI 31).toInt64 &&& 63)).toBitVec = (jL l).toBitVec <<< (31 : Nat) := rfl
  rw [q, BitVec.toNat_shiftLeft, e, Nat.shiftLeft_eq]
  omega
/-- the cell of a pair -/
theorem cell_pair {l r : Int} (l0 : 0 ≤ l) (l1 : l < 2147483648) (r0 : 0 ≤ r) (r1 : r < 2147483648) : wlor (wlor (-9223372036854775808) (wlshl l 31)) r < 0 ∧ cL (wlor (wlor (-9223372036854775808) (wlshl l 31)) r) = l ∧ cR (wlor (wlor (-9223372036854775808) (wlshl l 31)) r) = r := by
  have e1 := shl31 l0 l1
  have e2 := nN64_pos r0 (show r < 9223372036854775808 by omega)
  have e0 : nN64 (-9223372036854775808) = 2 ^ 63 := by decide
  have o1 : (2 ^ 63 ||| 2 ^ 31 * l.toNat : Nat) = 2 ^ 63 + 2 ^ 31 * l.toNat := by
    have q := Nat.two_pow_add_eq_or_of_lt (i := 63) (b := 2 ^ 31 * l.toNat) (by omega) 1
    rw [Nat.mul_one] at q
    exact q.symm
  have e3 : nN64 (wlor (-9223372036854775808) (wlshl l 31)) = 2 ^ 31 * (2 ^ 32 + l.toNat) := by
    rw [nN64_or, e0, e1, o1]; omega
  have e4 : nN64 (wlor (wlor (-9223372036854775808) (wlshl l 31)) r) = 2 ^ 31 * (2 ^ 32 + l.toNat) + r.toNat := by
    rw [nN64_or, e3, e2, Nat.two_pow_add_eq_or_of_lt (by omega)]
  refine ⟨?_, ?_, ?_⟩
  · unfold nN64 at e4
    have e5 : (jL (wlor (wlor (-9223372036854775808) (wlshl l 31)) r)).toInt = wlor (wlor (-9223372036854775808) (wlshl l 31)) r := by
      unfold wlor
      rw [jL_of]
    have e6 : (jL (wlor (wlor (-9223372036854775808) (wlshl l 31)) r)).toBitVec.toInt = wlor (wlor (-9223372036854775808) (wlshl l 31)) r := e5
    rw [← e6, BitVec.toInt_eq_toNat_cond, if_neg (by omega)]
    omega
  · rw [cL_nat, e4]; omega
  · rw [cR_nat, e4]; omega
theorem ushr62 {v : Int} (hv : inL v) (h : wlushr v 62 = 0 ∨ wlushr v 62 = 1) : 0 ≤ v := by
  have e := nN64_ushr v 62 62 (by decide)
  have e5 : (jL v).toInt = v := jL_toInt hv
  have e6 : (jL v).toBitVec.toInt = v := e5
  have q : nN64 (wlushr v 62) ≤ 1 := by
    rcases h with z | z <;> rw [z] <;> decide
  have n : nN64 v < 2 ^ 63 := by omega
  unfold nN64 at n
  rw [BitVec.toInt_eq_toNat_cond, if_pos (by omega)] at e6
  omega
theorem ushr62b {v : Int} (hv : inL v) (h : wlushr v 62 = 0) : 0 ≤ v ∧ v < 4611686018427387904 := by
  have h0 := ushr62 hv (Or.inl h)
  have e := nN64_ushr v 62 62 (by decide)
  rw [h] at e
  have e0 : nN64 0 = 0 := by decide
  have e1 := nN64_pos h0 hv.2
  rw [e0, e1] at e
  omega
theorem wladd_eq {x y : Int} (h : inL (x + y)) : wladd x y = x + y := by
  unfold wladd
  rw [jL_add, jL_toInt h]
