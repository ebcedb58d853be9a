/-! pathsOf -/
def fPt (k : Nat) : Bool := fB k || (decide (123 ≤ k) && decide (k ≤ 129))
def PathSt (u v : iST) : Prop := GI v ∧ ExtT u v ∧ Fx fPt u v ∧ v.1 6 = u.1 6 ∧ v.1 11 = u.1 11 ∧ (v.1 61 = u.1 61 ∨ (u.1 61 = 0 ∧ v.1 61 = 4))
def EN (v : iST) (j : Int) : Prop := TJ v (v.2.1 127 j) ∧ 0 ≤ v.2.1 129 j ∧ 3 * v.2.1 129 j + sz v (v.2.1 127 j) ≤ 120 ∧ (∀ i, 0 ≤ i → i < v.2.1 129 j → TJ v (v.2.1 128 (64 * j + i))) ∧ sumT v (fun i => v.2.1 128 (64 * j + i)) (v.2.1 129 j).toNat + sz v (v.2.1 127 j) ≤ 120
def PN (v : iST) (p : Int) : Prop := TJ v (v.2.1 123 p) ∧ 0 ≤ v.2.1 125 p ∧ v.2.1 125 p ≤ 39 ∧ (∀ i, 0 ≤ i → i < v.2.1 125 p → TJ v (v.2.1 124 (64 * p + i))) ∧ sumT v (fun i => v.2.1 124 (64 * p + i)) (v.2.1 125 p).toNat ≤ 120
theorem sumT_ext {u v : iST} (h : ExtT u v) {r r' : Int → Int} : ∀ {n : Nat}, (∀ j : Nat, j < n → IsT u (r j) ∧ r' j = r j) → sumT v r' n = sumT u r n
  | 0, _ => rfl
  | n + 1, hh => by
    show sumT v r' n + sz v (r' n) = sumT u r n + sz u (r n)
    rw [sumT_ext h (n := n) (fun j hj => hh j (by omega)), (hh n (by omega)).2, h.szx (hh n (by omega)).1]
theorem EN.ext {u v : iST} (hT : TI u) (h : ExtT u v) {j : Int} (e1 : v.2.1 127 j = u.2.1 127 j) (e2 : v.2.1 129 j = u.2.1 129 j) (e3 : ∀ i, 0 ≤ i → i < 64 → v.2.1 128 (64 * j + i) = u.2.1 128 (64 * j + i)) (hn : EN u j) : EN v j := by
  obtain ⟨a, b, c, d, sm⟩ := hn
  have hs := a.1.szr hT
  unfold EN
  rw [e1, e2, h.szx a.1]
  refine ⟨a.ext hT h, b, c, fun i i0 i1 => by rw [e3 i i0 (by omega)]; exact (d i i0 i1).ext hT h, ?_⟩
  rw [sumT_ext h (r := fun i => u.2.1 128 (64 * j + i)) (fun i hi => ⟨(d i (by omega) (by omega)).1, e3 i (by omega) (by omega)⟩)]
  exact sm
theorem PN.ext {u v : iST} (hT : TI u) (h : ExtT u v) {p : Int} (e1 : v.2.1 123 p = u.2.1 123 p) (e2 : v.2.1 125 p = u.2.1 125 p) (e3 : ∀ i, 0 ≤ i → i < 64 → v.2.1 124 (64 * p + i) = u.2.1 124 (64 * p + i)) (hn : PN u p) : PN v p := by
  obtain ⟨a, b, c, d, sm⟩ := hn
  unfold PN
  rw [e1, e2]
  refine ⟨a.ext hT h, b, c, fun i i0 i1 => by rw [e3 i i0 (by omega)]; exact (d i i0 i1).ext hT h, ?_⟩
  rw [sumT_ext h (r := fun i => u.2.1 124 (64 * p + i)) (fun i hi => ⟨(d i (by omega) (by omega)).1, e3 i (by omega) (by omega)⟩)]
  exact sm
def fPx (k : Nat) : Bool := decide (123 ≤ k) && decide (k ≤ 129)
theorem PathSt.row {u v z : iST} (h : PathSt u v) (hF : Fx fPx v z) (hL : z.2.2 = v.2.2) : PathSt u z ∧ ExtT v z := by
  obtain ⟨a1, a2, a3, a4, a5, a6⟩ := h
  have ht : ∀ k, k ≤ 11 → z.1 k = v.1 k ∧ z.2.1 k = v.2.1 k := fun k hk => hF k (by simp [fPx]; omega)
  have hS : SameF v z := SameF.of hF rfl rfl rfl rfl rfl
  have hE : ExtT v z := ExtT.same ht hL hS
  have e61 := fx_s hF 61 rfl
  exact ⟨⟨⟨TI_eq a1.1 ht hL, a1.2.1.ext hE.1 hS, by rw [fx_s hF 69 rfl]; exact a1.2.2.1, by rw [fx_s hF 71 rfl]; exact a1.2.2.2⟩, ⟨a2.1.tr hE.1, fun x hx => by rw [(ht 3 (by decide)).2]; exact a2.2.1 x hx, fun f n h0 hh => hE.2.2 f n h0 (a2.2.2 f n h0 hh)⟩, a3.tr (hF.mono (fun k hk => by simp only [fPt, Bool.or_eq_false_iff] at hk; exact hk.2)), by rw [(ht 6 (by decide)).1]; exact a4, by rw [(ht 11 (by decide)).1]; exact a5, by omega⟩, hE⟩
theorem IF_sz {u : iST} (hT : TI u) {t : Int} (ht : TJ u t) (h3 : u.2.1 0 t = 3) : sz u t = 1 + sz u (el u t 1) + sz u (el u t 2) + sz u (el u t 3) := by
  obtain ⟨n, a, b, c, d, e⟩ := ht.1.call hT ⟨by omega, by omega⟩ ht.2
  have : n = 3 := b.fun (Ar_base (by omega) (by omega) (Or.inl ⟨h3, rfl⟩))
  subst this
  have e' : sz u t = 1 + (sz u (el u t 1) + (sz u (el u t 2) + (sz u (el u t 3) + 0))) := e
  omega
