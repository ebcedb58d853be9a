-- deps: 555
/-! the reference: a command -/
theorem Ran_else [DecidableEq Ob] {H : Sp.Hs} {fuel : Nat} {o : Ob} (h1 : Ob.lft o ≠ Ob.eval) (h2 : Ob.lft o ≠ Ob.simplify) (h3 : Ob.lft o ≠ Ob.prove) (h4 : Ob.lft o ≠ Ob.defthm) (h5 : Ob.lft o ≠ Ob.defun) (h6 : Ob.lft o ≠ Ob.check) (h7 : Ob.lft o ≠ Ob.on) (h8 : Ob.lft o ≠ Ob.off) (h9 : Ob.lft o ≠ Ob.undo) : Sp.Ran H fuel o (Sp.nothing H) := by
  unfold Sp.Ran
  rw [if_neg h1, if_neg h2, if_neg (fun z => z.elim h3 h4), if_neg h5, if_neg h6, if_neg (fun z => z.elim h7 h8), if_neg h9]
theorem p_command [DecidableEq Ob] {a : Int} {Q : Int → iST → Prop} {u : iST} {H : Sp.Hs} {fuel : Nat} (hI : CmI u H fuel a) (hfu : fuel < 1000000) (hw : Ob.lenA (ob u a)) (hq : ∀ ans v r, Sp.Ran H fuel (ob u a) r → CmO u v r ans → Q ans v) : pw_command a Q u := by
  have hI' := hI
  obtain ⟨hX, bg, ⟨h71, h64, h61, h60, h59, h62, h63⟩, a0, a1⟩ := hI'
  have hT := hX.1
  have hU := hX.2.1
  have no : Sp.Ran H fuel (ob u a) (Sp.nothing H) → Q 2 u := fun hr => hq 2 u _ hr (CmO.no hX bg (GZ.rf hT hU) h64 h60 h62 (by decide))
  unfold pw_command
  refine p_isPair hT a0 a1 (fun r hr => ⟨fun hz => ?_, fun hz => no ?_⟩)
  rotate_left
  · have hp := hr.f (Decidable.not_not.mp hz)
    have e : Ob.lft (ob u a) = Ob.nil := by
      cases e : ob u a with
      | var x => rfl
      | op x y => rw [e] at hp; cases hp
    have ne : ∀ s : List Int, Ob.enc s ≠ Ob.enc [110, 105, 108] → Ob.lft (ob u a) ≠ Ob.sym s := fun s h1 z => Ob.sym_ne h1 (z.symm.trans e)
    exact Ran_else (ne _ (by decide)) (ne _ (by decide)) (ne _ (by decide)) (ne _ (by decide)) (ne _ (by decide)) (ne _ (by decide)) (ne _ (by decide)) (ne _ (by decide)) (ne _ (by decide))
  have hpr := hr.t hz
  obtain ⟨f0, f1, _, _, ef, _, _⟩ := ob_lft hT a0 a1 hpr
  have kf : ∀ (k : Int) (o : Ob), 0 ≤ k → k < 44 → Ob.known[k.toNat]? = some o → (u.2.1 0 a = k ↔ Ob.lft (ob u a) = o) := fun k o k0 k4 ho => by
    rw [ef]; exact kat hT hU k k0 k4 ho f0 (by omega)
  have nk : ∀ (k : Int) (o : Ob), 0 ≤ k → k < 44 → Ob.known[k.toNat]? = some o → ¬ u.2.1 0 a = k → Ob.lft (ob u a) ≠ o := fun k o k0 k4 ho hn z => hn ((kf k o k0 k4 ho).mpr z)
  intro _ _ y ey _
  rw [ey]
  refine ⟨fun c => ?_, fun c17 => ⟨fun c => ?_, fun c18 => ⟨fun c => ?_, fun c19 => ⟨fun c => ?_, fun c20 => ⟨fun c => ?_, fun c21 => ⟨fun c => ?_, fun c22 => ⟨fun c => ?_, fun c23 => ⟨fun c => ?_, fun c24 => ⟨fun c => ?_, fun c25 => ⟨fun c => ?_, fun c26 => ?_⟩⟩⟩⟩⟩⟩⟩⟩⟩⟩
  · exact p_defun hI ((kf 17 Ob.defun (by decide) (by decide) rfl).mp c) hq
  · have e := (kf 18 Ob.thmS (by decide) (by decide) rfl).mp c
    have ne : ∀ s : List Int, Ob.enc s ≠ Ob.enc [116, 104, 101, 111, 114, 101, 109] → Ob.lft (ob u a) ≠ Ob.sym s := fun s h1 z => Ob.sym_ne h1 (z.symm.trans e)
    exact no (Ran_else (ne _ (by decide)) (ne _ (by decide)) (ne _ (by decide)) (ne _ (by decide)) (ne _ (by decide)) (ne _ (by decide)) (ne _ (by decide)) (ne _ (by decide)) (ne _ (by decide)))
  · exact p_eval hI hfu ((kf 19 Ob.eval (by decide) (by decide) rfl).mp c) hq
  · exact p_simplify hI ((kf 20 Ob.simplify (by decide) (by decide) rfl).mp c) hq
  · have e := (kf 21 Ob.prove (by decide) (by decide) rfl).mp c
    exact p_defthm hI hw hpr (Or.inl ⟨rfl, rfl⟩) (fun r h => Ran_prove e h) hq
  · have e := (kf 22 Ob.defthm (by decide) (by decide) rfl).mp c
    exact p_defthm hI hw hpr (Or.inr ⟨rfl, rfl⟩) (fun r h => Ran_defthm e h) hq
  · exact p_turn hI (Or.inl ⟨rfl, (kf 23 Ob.on (by decide) (by decide) rfl).mp c⟩) hq
  · exact p_turn hI (Or.inr ⟨rfl, (kf 24 Ob.off (by decide) (by decide) rfl).mp c⟩) hq
  · exact p_undo hI ((kf 25 Ob.undo (by decide) (by decide) rfl).mp c) hq
  · exact p_check hI hw ((kf 26 Ob.check (by decide) (by decide) rfl).mp c) hq
  · exact no (Ran_else (nk 19 _ (by decide) (by decide) rfl c19) (nk 20 _ (by decide) (by decide) rfl c20) (nk 21 _ (by decide) (by decide) rfl c21) (nk 22 _ (by decide) (by decide) rfl c22) (nk 17 _ (by decide) (by decide) rfl c17) (nk 26 _ (by decide) (by decide) rfl c26) (nk 23 _ (by decide) (by decide) rfl c23) (nk 24 _ (by decide) (by decide) rfl c24) (nk 25 _ (by decide) (by decide) rfl c25))
