-- deps: 563
/-! the specification alone: what comes of a run is one thing -/
def FnP [DecidableEq Ob] (P : Sp.Res → Prop) : Prop := ∀ r r', P r → P r' → r = r'
theorem FnP.eq [DecidableEq Ob] (a : Sp.Res) : FnP (fun r => r = a) := fun _ _ h h' => h.trans h'.symm
theorem FnP.ite [DecidableEq Ob] {c : Prop} [Decidable c] {A B : Sp.Res → Prop} (hA : FnP A) (hB : FnP B) : FnP (fun r => if c then A r else B r) := by
  intro r r' h h'
  by_cases q : c
  · rw [if_pos q] at h h'; exact hA r r' h h'
  · rw [if_neg q] at h h'; exact hB r r' h h'
theorem Proves_det [DecidableEq Ob] {E : Sp.Env} {H H' : Sp.Hs} {fuel : Nat} {m : Sp.M (List Sp.Cla)} : FnP (Sp.Proves E H H' fuel m) := by
  intro r r' h h'
  unfold Sp.Proves at h h'
  cases e : m (fuel, 0) with
  | error x s => rw [e] at h h'; exact h.trans h'.symm
  | ok cl s =>
    rw [e] at h h'
    obtain ⟨l, s1, h1, h2⟩ := h
    obtain ⟨l', s1', h1', h2'⟩ := h'
    have := Sp.PvEnd.det h1 h1'
    injection this with a b
    rw [h2, h2', a, b]
theorem RanT_det [DecidableEq Ob] {k : Nat} {H : Sp.Hs} {fuel : Nat} {o : Ob} : FnP (Sp.RanT k H fuel o) := by
  intro r r' h h'
  unfold Sp.RanT at h h'
  split at h
  · next F e => rw [e] at h'; exact FnP.ite (FnP.eq _) Proves_det r r' h h'
  · next e => rw [e] at h'; exact h.trans h'.symm
theorem RanD_det [DecidableEq Ob] {H : Sp.Hs} {fuel : Nat} {o : Ob} : FnP (Sp.RanD H fuel o) := by
  intro r r' h h'
  unfold Sp.RanD at h h'
  split at h
  · next B e =>
    rw [e] at h'
    dsimp only at h'
    split at h
    · next m e2 =>
      rw [e2] at h'
      dsimp only at h'
      split at h
      · next c =>
        rw [if_pos c] at h'
        split at h
        · next c2 => rw [if_pos c2] at h'; exact h.trans h'.symm
        · next c2 =>
          rw [if_neg c2] at h'
          cases m with
          | none => exact h.trans h'.symm
          | some M => exact Proves_det r r' h h'
      · next c => rw [if_neg c] at h'; exact h.trans h'.symm
    · next e2 => rw [e2] at h'; exact h.trans h'.symm
  · next e => rw [e] at h'; exact h.trans h'.symm
theorem Ran_det [DecidableEq Ob] {H : Sp.Hs} {fuel : Nat} {o : Ob} : FnP (Sp.Ran H fuel o) := by
  have ev : ∀ T : Ob, FnP (fun r => match Sp.ev (H.env []) 300 (fun x => x) T (fuel, 1000000, 0) with | .ok _ s => r = (H, (fuel : Int) - (s.1 : Int), 0, false) | .error _ s => r = (H, (fuel : Int) - (s.1 : Int), 0, false)) := fun T => by
    cases Sp.ev (H.env []) 300 (fun x => x) T (fuel, 1000000, 0) with
    | ok a s => exact FnP.eq _
    | error a s => exact FnP.eq _
  unfold Sp.Ran
  refine FnP.ite ?_ (FnP.ite ?_ (FnP.ite ?_ (FnP.ite ?_ (FnP.ite ?_ (FnP.ite (FnP.ite (FnP.eq _) (FnP.eq _)) (FnP.ite (FnP.ite (FnP.eq _) (FnP.eq _)) (FnP.eq _)))))))
  · intro r r' h h'
    cases e : (if Ob.len o = 2 then Sp.rdAt (H.env []) o 1 else none) with
    | none => rw [e] at h h'; exact h.trans h'.symm
    | some T => rw [e] at h h'; exact FnP.ite (FnP.eq _) (ev T) r r' h h'
  · intro r r' h h'
    cases e : (if Ob.len o = 2 then Sp.rdAt (H.env []) o 1 else none) with
    | none => rw [e] at h h'; exact h.trans h'.symm
    | some T => rw [e] at h h'; exact h.trans h'.symm
  · exact RanT_det
  · exact RanD_det
  · intro r r' h h'
    cases e : (if Ob.len o = 4 ∧ Ob.isName (Ob.item o 1) then Sp.rdAt (H.env []) o 2 else none) with
    | none => rw [e] at h h'; exact h.trans h'.symm
    | some F => rw [e] at h h'; exact FnP.ite (FnP.eq _) (FnP.eq _) r r' h h'
theorem RanT0_det [DecidableEq Ob] {H : Sp.Hs} {fuel : Nat} {t : List Int} : FnP (Sp.RanT0 H fuel t) := by
  intro r r' h h'
  unfold Sp.RanT0 at h h'
  cases e : Sp.read t with
  | none => rw [e] at h h'; exact h.trans h'.symm
  | some o => rw [e] at h h'; exact Ran_det r r' h h'
