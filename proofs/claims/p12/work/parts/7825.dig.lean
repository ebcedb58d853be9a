-- deps: 782
/-! digits -/
theorem wlmulC [DecidableEq Ob] {x y : Int} (h : inL (x * y)) : wlmul x y = x * y := by
  unfold wlmul
  have e : jL x * jL y = jL (x * y) := by
    unfold jL
    exact (Int64.ofInt_mul x y).symm
  rw [e, jL_toInt h]
theorem digA [DecidableEq Ob] {v3 v14 : Int} (h1 : 48 ≤ v3) (h2 : v3 ≤ 57) (e : v14 = wlsub 4611686018427387903 (v3 - 48)) : v14 = 4611686018427387903 - (v3 - 48) := by
  have h : inL (4611686018427387903 - (v3 - 48)) := ⟨by omega, by omega⟩
  rw [e]
  exact wlsub_eq' h
theorem digB [DecidableEq Ob] {x4 v3 v10 v12 : Int} (k2 : 0 ≤ x4) (k3 : x4 ≤ 4611686018427387903) (h1 : 48 ≤ v3) (h2 : v3 ≤ 57) (qle : 10 * x4 ≤ 4611686018427387903 - (v3 - 48)) (e10 : v10 = wlmul x4 10) (e12 : v12 = wladd v10 (v3 - 48)) : v12 = 10 * x4 + (v3 - 48) ∧ 0 ≤ v12 ∧ v12 ≤ 4611686018427387903 := by
  have i1 : inL (x4 * 10) := ⟨by omega, by omega⟩
  have e1 : v10 = x4 * 10 := by rw [e10]; exact wlmulC i1
  have i2 : inL (v10 + (v3 - 48)) := by rw [e1]; exact ⟨by omega, by omega⟩
  have e2 : v12 = v10 + (v3 - 48) := by rw [e12]; exact wladd_eq i2
  rw [e1] at e2
  exact ⟨by omega, by omega, by omega⟩
theorem digC [DecidableEq Ob] {x4 v3 : Int} : x4 ≤ (4611686018427387903 - (v3 - 48)) / 10 ↔ 10 * x4 ≤ 4611686018427387903 - (v3 - 48) := by
  rw [Int.le_ediv_iff_mul_le (by decide)]
  constructor <;> intro h <;> omega
theorem digD [DecidableEq Ob] {v3 v14 : Int} (h2 : v3 ≤ 57) (e : v14 = 4611686018427387903 - (v3 - 48)) : Int.tdiv v14 10 = (4611686018427387903 - (v3 - 48)) / 10 := by
  rw [e]
  exact Int.tdiv_eq_ediv_of_nonneg (by omega)
