-- deps: 564
-- nodec
/-! the class: words by their codes -/
def alL : List Int := [32, 97, 98, 99, 100, 101, 102, 103, 104, 105, 106, 107, 108, 109, 110, 111, 112, 113, 114, 115, 116, 117, 118, 119, 120, 121, 122, 48, 49, 50, 51, 52, 53, 54, 55, 56, 57, 43, 45, 42, 47, 60, 62, 61, 63, 33, 95]
/-- the character with this number in the alphabet -/
def alC (d : Nat) : Int := alL.getD d 0
def wdF : Nat → Nat → List Int | 0, _ => [] | k + 1, n => if n = 0 then [] else wdF k (n / 47) ++ [alC (n % 47)]
/-- the word with this code -/
def wdC (n : Nat) : List Int := wdF 11 n
def cdF : Nat → Nat → Prop | 0, n => n = 0 | k + 1, n => n = 0 ∨ (n % 47 ≠ 0 ∧ cdF k (n / 47))
def cdOk (n : Nat) : Prop := n ≠ 0 ∧ cdF 11 n
theorem alC_r : ∀ d, d < 47 → 32 ≤ alC d ∧ alC d ≤ 122 := by decide
theorem alC_inj : ∀ d, d < 47 → ∀ e, e < 47 → alC d = alC e → d = e := by decide
theorem wdF_nil {k n : Nat} (h : wdF (k + 1) n = []) : n = 0 := by
  by_cases c : n = 0
  · exact c
  · have h : (if n = 0 then [] else wdF k (n / 47) ++ [alC (n % 47)]) = [] := h
    rw [if_neg c] at h
    exact absurd h (by simp)
theorem wdF_inj : ∀ (k m n : Nat), cdF k m → cdF k n → wdF k m = wdF k n → m = n
  | 0, m, n, hm, hn, _ => by
    have hm : m = 0 := hm
    have hn : n = 0 := hn
    omega
  | k + 1, m, n, hm, hn, h => by
    by_cases c1 : m = 0
    · rw [c1] at h ⊢
      exact (wdF_nil (k := k) h.symm).symm
    by_cases c2 : n = 0
    · rw [c2] at h ⊢
      exact wdF_nil (k := k) h
    have h : (if m = 0 then [] else wdF k (m / 47) ++ [alC (m % 47)]) = (if n = 0 then [] else wdF k (n / 47) ++ [alC (n % 47)]) := h
    rw [if_neg c1, if_neg c2] at h
    have h2 := List.append_inj' h rfl
    have e1 := wdF_inj k _ _ (hm.resolve_left c1).2 (hn.resolve_left c2).2 h2.1
    have e2 := alC_inj _ (Nat.mod_lt _ (by decide)) _ (Nat.mod_lt _ (by decide)) (List.cons.inj h2.2).1
    omega
theorem wdC_inj {m n : Nat} (hm : cdOk m) (hn : cdOk n) (h : wdC m = wdC n) : m = n := wdF_inj 11 m n hm.2 hn.2 h
theorem wdF_len : ∀ k n : Nat, (wdF k n).length ≤ k
  | 0, _ => Nat.le_refl _
  | k + 1, n => by
    have := wdF_len k (n / 47)
    show (if n = 0 then [] else wdF k (n / 47) ++ [alC (n % 47)]).length ≤ k + 1
    split
    · exact Nat.zero_le _
    · rw [List.length_append]; simp; omega
theorem wdF_chr : ∀ (k n : Nat) (c : Int), c ∈ wdF k n → 32 ≤ c ∧ c ≤ 122
  | 0, _, _, h => by cases h
  | k + 1, n, c, h => by
    have h : c ∈ (if n = 0 then [] else wdF k (n / 47) ++ [alC (n % 47)]) := h
    split at h
    · cases h
    · rcases List.mem_append.mp h with q | q
      · exact wdF_chr k _ c q
      · rcases List.mem_cons.mp q with q | q
        · rw [q]; exact alC_r _ (Nat.mod_lt _ (by decide))
        · cases q
theorem wdC_ok (n : Nat) : Ob.okw (wdC n) := ⟨Nat.le_trans (wdF_len 11 n) (by decide), fun c hc => by have := wdF_chr 11 n c hc; omega⟩
