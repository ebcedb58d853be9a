-- deps: 4307
/-! digits -/
def dU [DecidableEq Ob] (n : Nat) : Nat → List Int | 0 => [48 + ((n / 10 ^ 0 % 10 : Nat) : Int)] | j + 1 => (48 + ((n / 10 ^ (j + 1) % 10 : Nat) : Int)) :: dU n j
theorem dU_step [DecidableEq Ob] (n : Nat) : ∀ j, dU n (j + 1) = dU (n / 10) j ++ [48 + ((n % 10 : Nat) : Int)]
  | 0 => by
    show [48 + ((n / 10 ^ 1 % 10 : Nat) : Int), 48 + ((n / 10 ^ 0 % 10 : Nat) : Int)] = [48 + ((n / 10 / 10 ^ 0 % 10 : Nat) : Int), _]
    simp
  | j + 1 => by
    have ih := dU_step n j
    show (48 + ((n / 10 ^ (j + 1 + 1) % 10 : Nat) : Int)) :: dU n (j + 1) = ((48 + ((n / 10 / 10 ^ (j + 1) % 10 : Nat) : Int)) :: dU (n / 10) j) ++ _
    rw [ih, List.cons_append, Nat.div_div_eq_div_mul, show 10 * 10 ^ (j + 1) = 10 ^ (j + 1 + 1) by rw [Nat.pow_succ 10 (j + 1), Nat.mul_comm]]
theorem dg_dU [DecidableEq Ob] : ∀ (j k n : Nat), j < k → n < 10 ^ (j + 1) → (j = 0 ∨ 10 ^ j ≤ n) → Ob.dg k n = dU n j
  | _, 0, _, h, _, _ => by omega
  | 0, k + 1, n, _, h, _ => by
    have h : n < 10 := by simpa using h
    show (if n < 10 then [48 + (n : Int)] else _) = [48 + ((n / 10 ^ 0 % 10 : Nat) : Int)]
    rw [if_pos h]
    have : n / 10 ^ 0 % 10 = n := by simp; omega
    rw [this]
  | j + 1, k + 1, n, hk, h, h2 => by
    have h2 : 10 ^ (j + 1) ≤ n := h2.resolve_left (by omega)
    have p : 1 ≤ 10 ^ j := Nat.one_le_pow _ _ (by decide)
    have e : 10 ^ (j + 1) = 10 * 10 ^ j := by rw [Nat.pow_succ, Nat.mul_comm]
    have e2 : 10 ^ (j + 1 + 1) = 10 * 10 ^ (j + 1) := by rw [Nat.pow_succ, Nat.mul_comm]
    rw [dU_step]
    show (if n < 10 then _ else Ob.dg k (n / 10) ++ [48 + ((n % 10 : Nat) : Int)]) = _
    rw [if_neg (by omega), dg_dU j k (n / 10) (by omega) (by omega) (Or.inr (by omega))]
theorem take_app [DecidableEq Ob] {α : Type} (n : Nat) (a b : List α) : (a.take n ++ b).take n = (a ++ b).take n := by
  rw [List.take_append, List.take_append, List.take_take, Nat.min_self, List.length_take]
  rcases Nat.le_total n a.length with h | h
  · rw [Nat.min_eq_left h, Nat.sub_self, Nat.sub_eq_zero_of_le h]
  · rw [Nat.min_eq_right h]
theorem atomT_nat [DecidableEq Ob] {n : Int} (h : 0 ≤ n) : Ob.atomT (Ob.nat n) = Ob.dg 20 n.toNat := by
  show (if 2 * n.toNat % 2 = 0 then Ob.dg 20 (2 * n.toNat / 2) else _) = _
  rw [if_pos (by omega), show 2 * n.toNat / 2 = n.toNat by omega]
theorem atomT_sym [DecidableEq Ob] {s : List Int} (h : Ob.okw s) : Ob.atomT (Ob.sym s) = s := by
  show (if (2 * Ob.enc s + 1) % 2 = 0 then _ else Ob.dec ((2 * Ob.enc s + 1) / 2)) = _
  rw [if_neg (by omega), show (2 * Ob.enc s + 1) / 2 = Ob.enc s by omega, Ob.dec_enc h]
theorem tl_leaf [DecidableEq Ob] {o : Ob} (h : o.isPr = false) : Ob.tlM false o = Ob.atomT o := by
  cases o with
  | var x => rfl
  | op a b => cases h
theorem tl_quoted [DecidableEq Ob] {o : Ob} (h : o.isQuoted = true) : Ob.tlM false o = 39 :: Ob.tlM false (Ob.lft (Ob.rgt o)) := by
  cases o with
  | var x => cases h
  | op a b =>
    cases b with
    | var x => cases h
    | op x c =>
      have h : (decide (a = Ob.quote) && decide (c = Ob.nil)) = true := h
      simp only [Bool.and_eq_true, decide_eq_true_eq] at h
      rw [Ob.tlM.eq_def]
      show (if a = Ob.quote ∧ c = Ob.nil then _ else _) = _
      rw [if_pos h]
      rfl
theorem tl_list [DecidableEq Ob] {a b : Ob} (h : Ob.isQuoted (.pr a b) = false) : Ob.tlM false (.pr a b) = 40 :: (Ob.tlM false a ++ Ob.tlM true b) := by
  cases b with
  | var x => rw [Ob.tlM.eq_def]
  | op x c =>
    have h : (decide (a = Ob.quote) && decide (c = Ob.nil)) = false := h
    rw [Ob.tlM.eq_def]
    show (if a = Ob.quote ∧ c = Ob.nil then _ else _) = _
    rw [if_neg]
    rintro ⟨h1, h2⟩
    rw [decide_eq_true h1, decide_eq_true h2] at h
    cases h
theorem tl_rest [DecidableEq Ob] (a b : Ob) : Ob.tlM true (.pr a b) = 32 :: (Ob.tlM false a ++ Ob.tlM true b) := by rw [Ob.tlM.eq_def]
theorem tl_nil [DecidableEq Ob] : Ob.tlM true Ob.nil = [41] := by
  rw [Ob.tlM.eq_def]
  exact if_pos rfl
theorem tl_dot [DecidableEq Ob] {o : Ob} (h : o.isPr = false) (hn : o ≠ Ob.nil) : Ob.tlM true o = [32, 46, 32] ++ Ob.atomT o ++ [41] := by
  cases o with
  | var x =>
    rw [Ob.tlM.eq_def]
    exact if_neg hn
  | op a b => cases h
