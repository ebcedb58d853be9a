-- deps: 7996
/-! a definition as told makes a right house -/
theorem addDef_ok [DecidableEq Ob] {H : Sp.Hs} {o B : Ob} {m : Option Ob} (hO : Sp.HOk H) (hd : DfH o) (hB : Ob.rdT (Sp.arC (H.env []) (Ob.item o 1) (Ob.toList (Ob.item o 2)).length) (Ob.item o 3) = some B) (ok : Sp.dfOk o B m) (hno : (H.env []).dfn (Ob.item o 1) = none) : Sp.HOk (Sp.addDef H (Ob.item o 1, Ob.toList (Ob.item o 2), B, m)) := by
  obtain ⟨_, hn, hl, h6, hv⟩ := hd
  obtain ⟨nb, ns, nq, _, _⟩ := isName_base hn
  obtain ⟨k1, k2, k3, k4⟩ := ok
  have hs0 : ∀ f : Ob, f.isSym = false → Sp.arOf (H.env []) f = -1 := arOf_sym (fun D hD => ((HOk.wf hO).1 D hD).1)
  obtain ⟨w1, w2⟩ := rdT_wt (arC_sy ns hs0) hB
  have ear : Sp.arC (H.env []) (Ob.item o 1) ((Ob.toList (Ob.item o 2)).length : Int) = Sp.arOf (H.1 ++ [(Ob.item o 1, Ob.toList (Ob.item o 2), B, m)], H.2.1, []) := funext (fun f => arC_app (ds := H.1) (D := (Ob.item o 1, Ob.toList (Ob.item o 2), B, m)) (t := H.2.1) (m := []) nb hno f)
  rw [ear] at w1
  refine HOk.addDef hO ⟨hn, ⟨h6, hv⟩, ⟨w1, w2, fun x hx hxv => ?_⟩, ?_⟩ (fun X hX z => ?_)
  · have q := List.all_eq_true.mp k2 x hx
    rw [hxv] at q
    have q : Ob.has (Ob.toList (Ob.item o 2)) x = true := q
    exact Ob.has_iff.mp q
  · show Sp.hasCall B (Ob.item o 1) = m.isSome
    cases e : Sp.hasCall B (Ob.item o 1) with
    | true => exact (k1.mp e).symm
    | false =>
      cases e2 : m.isSome with
      | false => rfl
      | true => rw [k1.mpr e2] at e; cases e
  · have q : H.1.find? (fun d => decide (Sp.Dfn.name d = Ob.item o 1)) = none := hno
    have := List.find?_eq_none.mp q X hX
    exact this (decide_eq_true z)
theorem addThm_ok [DecidableEq Ob] {H : Sp.Hs} {n F o : Ob} {k : Nat} {c : Int} (hO : Sp.HOk H) (hc : c ≠ 1) (hn : n.isName = true) (hF : Sp.rdAt (H.env []) o k = some F) (hno : (H.env []).thmOf n = none) : Sp.HOk (Sp.addThm H n F c) := by
  have hs0 : ∀ f : Ob, f.isSym = false → Sp.arOf (H.env []) f = -1 := arOf_sym (fun D hD => ((HOk.wf hO).1 D hD).1)
  obtain ⟨w1, w2⟩ := rdT_wt hs0 hF
  refine HOk.addThm hO hc hn w1 w2 (fun X hX z => ?_)
  have q : H.2.1.find? (fun d => decide (Sp.Thm.name d = n)) = none := hno
  exact List.find?_eq_none.mp q X hX (decide_eq_true z)
