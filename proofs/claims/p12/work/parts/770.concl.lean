-- deps: 769
/-! the class: what follows from the parts of a PROOF: clauses put together -/
section
variable {α : Type} {δ : Nat} {B : Int} {n r : Nat → Bool} {u v : iST} {E : Sp.Env} {R : EStateM.Result Unit Sp.Wk α} {K : List Ob → Sp.M α} {m : Int} {Q : iST → Prop}
/-- what a step of a conclusion leaves -/
def CcK [DecidableEq Ob] (E : Sp.Env) (m : Int) (v w : iST) : Prop := CG f8Yn f8Yr v w ∧ OtC (fun j => j ≠ m) v w ∧ (v.1 32 ≠ 0 → w.1 32 ≠ 0) ∧ (w.1 32 = 0 → ClW w E m ∧ Sp.bnd (clC w m) = true ∧ w.2.1 48 m = v.2.1 48 m)
theorem CcK.tr [DecidableEq Ob] {E : Sp.Env} {m : Int} {u v w : iST} (h : CcK E m u v) (g : CcK E m v w) : CcK E m u w := by
  refine ⟨h.1.tr g.1, h.2.1.tr g.2.1, fun z => g.2.2.1 (h.2.2.1 z), fun z => ?_⟩
  obtain ⟨a, b, c⟩ := g.2.2.2 z
  have zv : v.1 32 = 0 := by
    by_cases q : v.1 32 = 0
    · exact q
    · exact absurd z (g.2.2.1 q)
  exact ⟨a, b, c.trans (h.2.2.2 zv).2.2⟩
/-- behind work that leaves the clauses alone -/
theorem CcK.pre [DecidableEq Ob] {E : Sp.Env} {m : Int} {n' r' : Nat → Bool} {u v w : iST} (g0 : CG n' r' u v) (hn : ∀ k, f8Yn k = false → n' k = false) (hr : ∀ k, f8Yr k = false → r' k = false) (rows : ∀ k, 46 ≤ k → k ≤ 49 → v.2.1 k = u.2.1 k) (h32 : u.1 32 ≠ 0 → v.1 32 ≠ 0) (g : CcK E m v w) : CcK E m u w := ⟨(g0.mono hn hr).tr g.1, (OtC.of rows).tr g.2.1, fun z => g.2.2.1 (h32 z), fun z => by
  obtain ⟨a, b, c⟩ := g.2.2.2 z
  exact ⟨a, b, by rw [c, rows 48 (by decide) (by decide)]⟩⟩
theorem CcK.rf [DecidableEq Ob] {E : Sp.Env} {m : Int} {v : iST} (hT : CT v) (hC : v.1 32 = 0 → ClW v E m ∧ Sp.bnd (clC v m) = true) : CcK E m v v := ⟨CG.rf hT, OtC.rf, id, fun z => ⟨(hC z).1, (hC z).2, rfl⟩⟩
/-- a literal -/
theorem pc_joinC [DecidableEq Ob] {x : Int} (hP : PdK_d B δ n r u v R (K (Sp.putL (clC v m) (oc v x)))) (hn : ∀ k, n k = false → f8Yn k = false) (hr : ∀ k, r k = false → f8Yr k = false) (hC : v.1 32 = 0 → ClW v E m ∧ Sp.bnd (clC v m) = true) (nx : NdD v E x) (hK : ∀ l, Sp.bnd l = false → Die (K l)) (hq : ∀ w, CcK E m v w → PdK_d B δ n r u w R (K (clC w m)) → Q w) : pv_10_join m x Q v := by
  refine pc_joinP hP (fun k h => f8T_Y k (hn k h)) (fun k h => f8C_Y k (hr k h)) hC nx hK (fun w gw ow wd hal P => hq w ⟨gw.mono f8T_Y f8C_Y, ow, wd, fun z => ?_⟩ P)
  obtain ⟨_, a, b, c⟩ := hal z
  exact ⟨a, b, by rw [c]⟩
/-- an equality -/
theorem pc_joinEqual [DecidableEq Ob] {a b : Int} (hP : PdK_d B δ n r u v R (Sp.bd (Sp.mk2 Ob.equal (oc v a) (oc v b)) (fun x => K (Sp.putL (clC v m) x)))) (hn : ∀ k, n k = false → f8Yn k = false) (hr : ∀ k, r k = false → f8Yr k = false) (fit : Fit B R) (hKm : ∀ l, Mono (K l)) (hC : v.1 32 = 0 → ClW v E m ∧ Sp.bnd (clC v m) = true) (na : NdD v E a) (nb : NdD v E b) (hK : ∀ l, Sp.bnd l = false → Die (K l)) (hq : ∀ w, CcK E m v w → PdK_d B (δ + 300) n r u w R (K (clC w m)) → Q w) : pv_3_joinEqual m a b Q v := by
  have hT := hP.1.1
  obtain ⟨k0, k1, k2⟩ := knC hT 4 (o := Ob.equal) (by decide) (by decide) rfl
  unfold pv_3_joinEqual
  refine pc_mk2_d hP (fun k h => f8B_Y k (hn k h)) (fun k h => f8W_Y k (hr k h)) fit (fun _ => hKm _) ⟨⟨k0, k1⟩, k2⟩ (Ob.sym_isSym _) (Ob.sym_ne (by decide)) (arOf_equal E) na nb (fun t w gw wd nt P1 _ => ?_)
  have lv : w.1 32 = 0 → v.1 32 = 0 := fun z => by
    by_cases q : v.1 32 = 0
    · exact q
    · exact absurd z (wd q)
  have P2 : PdK_d B (δ + 300) n r u w R (K (Sp.putL (clC w m) (oc w t))) := by
    by_cases z : w.1 32 = 0
    · rw [((hC (lv z)).1.up hT gw (f8B_rows gw)).2]
      exact P1
    · exact P1.any z _
  refine pc_joinC P2 hn hr (fun z => ?_) nt hK (fun w2 c2 P3 => hq w2 (CcK.pre gw f8B_Y f8W_Y (f8B_rows gw) wd c2) P3)
  obtain ⟨a1, a2⟩ := (hC (lv z)).1.up hT gw (f8B_rows gw)
  exact ⟨a1, by rw [a2]; exact (hC (lv z)).2⟩
end
