-- deps: 781
-- nodec
/-! the alphabet -/
def atQ (c : Int) : Bool := decide (97 ≤ c ∧ c ≤ 122) || decide (48 ≤ c ∧ c ≤ 57) || decide (c = 43) || decide (c = 45) || decide (c = 42) || decide (c = 47) || decide (c = 60) || decide (c = 62) || decide (c = 61) || decide (c = 63) || decide (c = 33) || decide (c = 95)
def ixQ (c : Int) : Bool := if atQ c = true then decide (1 ≤ ixK c) && decide (ixK c < 47) && decide (alC (ixK c).toNat = c) else decide (ixK c ≤ 0)
def ixB (b : Nat) : Bool := ixQ (8 * b : Nat) && ixQ (8 * b + 1 : Nat) && ixQ (8 * b + 2 : Nat) && ixQ (8 * b + 3 : Nat) && ixQ (8 * b + 4 : Nat) && ixQ (8 * b + 5 : Nat) && ixQ (8 * b + 6 : Nat) && ixQ (8 * b + 7 : Nat)
theorem ix_blk : ∀ b : Nat, b < 32 → ixB b = true := by decide
theorem ix_all (c : Nat) (h : c < 256) : ixQ (c : Int) = true := by
  have hb := ix_blk (c / 8) (by omega)
  unfold ixB at hb
  simp only [Bool.and_eq_true] at hb
  obtain ⟨⟨⟨⟨⟨⟨⟨h0, h1⟩, h2⟩, h3⟩, h4⟩, h5⟩, h6⟩, h7⟩ := hb
  have hc : c = 8 * (c / 8) ∨ c = 8 * (c / 8) + 1 ∨ c = 8 * (c / 8) + 2 ∨ c = 8 * (c / 8) + 3 ∨ c = 8 * (c / 8) + 4 ∨ c = 8 * (c / 8) + 5 ∨ c = 8 * (c / 8) + 6 ∨ c = 8 * (c / 8) + 7 := by omega
  rcases hc with e | e | e | e | e | e | e | e <;> rw [e] <;> assumption
