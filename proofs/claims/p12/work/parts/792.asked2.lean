-- deps: 791
/-! the class: whether a command can be done -/
theorem npr_rgt [DecidableEq Ob] (o : Ob) : npr (Ob.rgt o) ≤ npr o := by
  have h1 := npr_lft o
  have h2 := npr_pos (Ob.lft o)
  omega
theorem npr_mem [DecidableEq Ob] : ∀ (o p : Ob), p ∈ Ob.toList o → npr p ≤ npr o
  | .var x, p, h => by cases h
  | .op a b, p, h => by
    have h1 := npr_pos a
    have h2 := npr_pos b
    have h : p ∈ a :: Ob.toList b := h
    rcases List.mem_cons.mp h with q | q
    · rw [q]
      show npr a ≤ 1 + npr a + npr b
      omega
    · have := npr_mem b p q
      show npr p ≤ 1 + npr a + npr b
      omega
theorem cpLt [DecidableEq Ob] : ∀ o : Ob, cpL (Ob.toList o) ≤ npr o
  | .var x => by
    show (0 : Int) ≤ 0
    omega
  | .op a b => by
    have h1 := cpLt b
    have h2 := npr_item 1 a
    have h3 := (csM_npr false (Ob.item a 1)).1
    show Ob.csM false (Ob.item a 1) + cpL (Ob.toList b) ≤ 1 + npr a + npr b
    omega
theorem cpHt [DecidableEq Ob] : ∀ o : Ob, cpH (Ob.toList o) ≤ npr o
  | .var x => by
    show (0 : Int) ≤ 0
    omega
  | .op a b => by
    have h1 := cpHt b
    have h2 := cpLt (Ob.rgt (Ob.rgt a))
    have h3 := npr_rgt (Ob.rgt a)
    have h4 := npr_rgt a
    show cpL (Ob.toList (Ob.rgt (Ob.rgt a))) + cpH (Ob.toList b) ≤ 1 + npr a + npr b
    omega
theorem hnW_of [DecidableEq Ob] {E : Sp.Env} {o h : Ob} (hw : nwd false o ≤ 1000) (hz : npr o ≤ 100000) (hh : h ∈ Ob.toList o) : HnW E h := by
  have a1 := nwd_in o h hh
  have a2 := nwd_tl o
  have a3 := nwd_rr h
  refine ⟨prB_nwd (by omega), fun p hp => ?_⟩
  have b1 := npr_mem _ _ hp
  have b2 := npr_rgt (Ob.rgt h)
  have b3 := npr_rgt h
  have b4 := npr_mem _ _ hh
  have b5 := npr_item 1 p
  have b6 : (Ob.item p 1).sz ≤ npr (Ob.item p 1) + 1 := (csM_npr false (Ob.item p 1)).2
  omega
theorem pc_theoremOf0 [DecidableEq Ob] {Q : Int → iST → Prop} {u : iST} {E : Sp.Env} (hE : TOc u E) (hq : Q (-1) u) : pv_0_theoremOf (-1) Q u := by
  unfold pv_0_theoremOf
  refine pv_0_theoremOf_2_i (fun x1 x2 y => x1 = -1 ∧ y = u ∧ 0 ≤ x2) ?_ ⟨rfl, rfl, Int.le_refl _⟩
  rintro x1 x2 y ⟨b1, b2, i0⟩
  rw [b1, b2]
  unfold pv_0_theoremOf_2b
  intro n1 en1 _
  refine ⟨fun _ => hq, fun z => ?_⟩
  intro _ _ n2 en2 _
  refine ⟨fun _ _ => ⟨rfl, rfl, by omega⟩, fun q => ?_⟩
  have q := Decidable.not_not.mp q
  have v := (hE.2 x2.toNat (by omega)).1.1.1
  rw [show ((x2.toNat : Nat) : Int) = x2 by omega] at v
  omega
/-- transport -/
theorem TrA.up [DecidableEq Ob] {n r : Nat → Bool} {v w : iST} {E : Sp.Env} {o : Ob} {k : Nat} (h : TrA v E o k) (hT : CT v) (g : CG n r v w) (h45 : w.1 45 = v.1 45) : TrA w E o k := by
  have q := h.1.up hT g
  unfold TrA
  rw [h45]
  exact ⟨q.1, by rw [q.2]; exact h.2⟩
theorem NmA.up [DecidableEq Ob] {n r : Nat → Bool} {v w : iST} {o : Ob} (h : NmA v o) (hT : CT v) (g : CG n r v w) (h44 : w.1 44 = v.1 44) : NmA w o := by
  unfold NmA
  rw [h44]
  exact ⟨h.1.up g, by rw [g.oc hT h.1.1 h.1.2]; exact h.2.1, h.2.2⟩
theorem HnA.up [DecidableEq Ob] {n r : Nat → Bool} {v w : iST} {o : Ob} {k : Nat} (h : HnA v o k) (hT : CT v) (g : CG n r v w) (h47 : w.1 47 = v.1 47) : HnA w o k := by
  unfold HnA
  rw [h47]
  exact ⟨h.1.up g, by rw [g.oc hT h.1.1 h.1.2]; exact h.2⟩
theorem DfA.up [DecidableEq Ob] {n r : Nat → Bool} {v w : iST} {H : Sp.Hs} {o : Ob} {x : Int} (h : DfA H o v x) (hT : CT v) (g : CG n r v w) (h45 : w.1 45 = v.1 45) (h46 : w.1 46 = v.1 46) : DfA H o w x := by
  rcases h with h | ⟨h1, B, m, a1, a2, a3, a4, ⟨a5, a6⟩, a7⟩
  · exact Or.inl h
  refine Or.inr ⟨h1, B, m, a1, a2, a3, a4, ?_, ?_⟩
  · rw [h45]
    exact ⟨a5.up g, by rw [g.oc hT a5.1 a5.2]; exact a6⟩
  · rw [h46]
    rcases a7 with q | ⟨M, q1, q2, q3⟩
    · exact Or.inl q
    · exact Or.inr ⟨M, q1, q2.up g, by rw [g.oc hT q2.1 q2.2]; exact q3⟩
theorem At3.up [DecidableEq Ob] {n r : Nat → Bool} {v w : iST} {H : Sp.Hs} {o : Ob} {k : Nat} (h : At3 H o v k) (hT : CT v) (g : CG n r v w) (hn : ∀ j, 44 ≤ j → j ≤ 47 → w.1 j = v.1 j) : At3 H o w k := by
  obtain ⟨a1, a2, a3, a4⟩ := h
  refine ⟨?_, a2, a3.up hT g (hn 45 (by omega) (by omega)), a4.up hT g (hn 47 (by omega) (by omega))⟩
  rcases a1 with q | ⟨q1, q2, q3⟩
  · exact Or.inl q
  · exact Or.inr ⟨q1, q2, q3.up hT g (hn 44 (by omega) (by omega))⟩
theorem AtD.up [DecidableEq Ob] {n r : Nat → Bool} {v w : iST} {H : Sp.Hs} {o : Ob} (h : AtD H o v) (hT : CT v) (g : CG n r v w) (hn : ∀ j, 44 ≤ j → j ≤ 47 → w.1 j = v.1 j) : AtD H o w := by
  have n44 := hn 44 (by omega) (by omega)
  have n45 := hn 45 (by omega) (by omega)
  have n46 := hn 46 (by omega) (by omega)
  have n47 := hn 47 (by omega) (by omega)
  unfold AtD
  rw [n44, n46, n47]
  rcases h with ⟨q, t⟩ | ⟨q, t⟩ | ⟨k, q, t⟩ | ⟨q, t⟩ | ⟨q, t⟩ | ⟨q, t⟩ | ⟨q, t⟩
  · refine Or.inl ⟨⟨q.1, q.2.1, q.2.2.1.up hT g n45, ?_⟩, t⟩
    rw [n45, (q.2.2.1.1.up hT g).2]
    exact q.2.2.2
  · exact Or.inr (Or.inl ⟨⟨q.1, q.2.1, q.2.2.up hT g n45⟩, t⟩)
  · exact Or.inr (Or.inr (Or.inl ⟨k, q.up hT g hn, t⟩))
  · exact Or.inr (Or.inr (Or.inr (Or.inl ⟨⟨q.1, q.2.1.up hT g n44, q.2.2.up hT g n45 n46⟩, t⟩)))
  · exact Or.inr (Or.inr (Or.inr (Or.inr (Or.inl ⟨⟨q.1, q.2.1, q.2.2.1.up hT g n44, q.2.2.2.up hT g n45⟩, t⟩))))
  · exact Or.inr (Or.inr (Or.inr (Or.inr (Or.inr (Or.inl ⟨⟨q.1, q.2.1, q.2.2.up hT g n44⟩, t⟩)))))
  · exact Or.inr (Or.inr (Or.inr (Or.inr (Or.inr (Or.inr ⟨q, t⟩)))))
/-- the hints of a command -/
def hsA [DecidableEq Ob] (o : Ob) : List Ob := if Ob.lft o = Ob.prove then (Ob.toList o).drop 2 else if Ob.lft o = Ob.defthm then (Ob.toList o).drop 3 else []
def InWd [DecidableEq Ob] (v : iST) (E : Sp.Env) (hs : List Ob) : Prop := (v.1 36 = -1 ∧ hs.find? (fun h => decide (Ob.lft h = Ob.induct)) = none) ∨ ∃ h, VN v (v.1 36) ∧ oc v (v.1 36) = Ob.item h 1 ∧ hs.find? (fun h => decide (Ob.lft h = Ob.induct)) = some h ∧ Sp.indAsk E (Ob.item h 1) = 0
/-- the name is right -/
def NaD [DecidableEq Ob] (H : Sp.Hs) (o : Ob) : Prop := (Ob.lft o = Ob.defthm ∨ Ob.lft o = Ob.check → (H.env []).thmOf (Ob.item o 1) = none ∧ H.2.1.length < 60) ∧ (Ob.lft o = Ob.defun → (H.env []).dfn (Ob.item o 1) = none ∧ H.1.length < 40) ∧ (Ob.lft o = Ob.on ∨ Ob.lft o = Ob.off → ((H.env []).thmOf (Ob.item o 1)).any (fun k => k.rule.isSome) = true) ∧ (Ob.lft o = Ob.undo → H.2.2 ≠ [])
theorem AtD.hd [DecidableEq Ob] {H : Sp.Hs} {o : Ob} {v : iST} (h : AtD H o v) : (1 ≤ Ob.len o) ∧ VN v (v.1 47) ∨ v.1 29 < 0 ∨ v.1 47 = 0 := by
  rcases h with ⟨q, t⟩ | ⟨q, t⟩ | ⟨k, q, t⟩ | ⟨q, t⟩ | ⟨q, t⟩ | ⟨q, t⟩ | ⟨q, t⟩
  · exact Or.inr (Or.inr t.2.2)
  · exact Or.inr (Or.inr t.2.2)
  · exact Or.inl ⟨by have := q.2.1; omega, q.2.2.2.1⟩
  · exact Or.inr (Or.inr t)
  · exact Or.inr (Or.inr t.2)
  · exact Or.inr (Or.inr t.2)
  · exact Or.inr (Or.inr t.2.2)
theorem hsA_0 [DecidableEq Ob] {o : Ob} (h1 : Ob.lft o ≠ Ob.prove) (h2 : Ob.lft o ≠ Ob.defthm) : hsA o = [] := by
  unfold hsA
  rw [if_neg h1, if_neg h2]
theorem AtD.hs [DecidableEq Ob] {H : Sp.Hs} {o : Ob} {v : iST} (h : AtD H o v) (hT : CT v) : VN v (v.1 47) ∧ Ob.toList (oc v (v.1 47)) = hsA o := by
  obtain ⟨z0, z1⟩ := VN.zero hT
  have nl : ∀ s : List Int, Ob.lft o = Ob.sym s → Ob.enc s ≠ Ob.enc [112, 114, 111, 118, 101] → Ob.enc s ≠ Ob.enc [100, 101, 102, 116, 104, 109] → v.1 47 = 0 → VN v (v.1 47) ∧ Ob.toList (oc v (v.1 47)) = hsA o := fun s hs n1 n2 t => by
    rw [t, z1, hsA_0 (fun z => Ob.sym_ne n1 (hs.symm.trans z)) (fun z => Ob.sym_ne n2 (hs.symm.trans z))]
    exact ⟨z0, rfl⟩
  rcases h with ⟨q, t⟩ | ⟨q, t⟩ | ⟨k, q, t⟩ | ⟨q, t⟩ | ⟨q, t⟩ | ⟨q, t⟩ | ⟨q, t⟩
  · exact nl _ q.1 (by decide) (by decide) t.2.2
  · exact nl _ q.1 (by decide) (by decide) t.2.2
  · obtain ⟨q1, q2, q3, q4, q5⟩ := q
    refine ⟨q4, q5.trans ?_⟩
    unfold hsA
    rcases q1 with ⟨p1, p2⟩ | ⟨p1, p2, _⟩
    · rw [if_pos p1, p2]
    · rw [if_neg (show ¬ Ob.lft o = Ob.prove from fun z => Ob.sym_ne (by decide) (p1.symm.trans z)), if_pos p1, p2]
  · exact nl _ q.1 (by decide) (by decide) t
  · exact nl _ q.1 (by decide) (by decide) t.2
  · rcases q.1 with e | e
    · exact nl _ e (by decide) (by decide) t.2
    · exact nl _ e (by decide) (by decide) t.2
  · exact nl _ q.1 (by decide) (by decide) t.2.2
/-- whether a command can be done -/
def AsO [DecidableEq Ob] (H : Sp.Hs) (o : Ob) (v : iST) (r : Int) : Prop := (r ≠ 0 ∧ ∀ fuel, Sp.Ran H fuel o (Sp.nothing H)) ∨ (r = 0 ∧ AtD H o v ∧ Sp.hintsAsk (H.env []) (hsA o) = 0 ∧ InWd v (H.env []) (hsA o) ∧ NaD H o)
def f8An (k : Nat) : Bool := f8Dn k || f8a k
def f8Ar (k : Nat) : Bool := f8Dr k || f8p k
theorem f8D_A [DecidableEq Ob] : ∀ k, f8An k = false → f8Dn k = false := fun k h => (Bool.or_eq_false_iff.mp h).1
theorem f8a_A [DecidableEq Ob] : ∀ k, f8An k = false → f8a k = false := fun k h => (Bool.or_eq_false_iff.mp h).2
theorem f8Dr_A [DecidableEq Ob] : ∀ k, f8Ar k = false → f8Dr k = false := fun k h => (Bool.or_eq_false_iff.mp h).1
theorem f8p_A [DecidableEq Ob] : ∀ k, f8Ar k = false → f8p k = false := fun k h => (Bool.or_eq_false_iff.mp h).2
theorem HC.rde [DecidableEq Ob] {u : iST} {H : Sp.Hs} (h : HC u H []) (h32 : u.1 32 = 0) : RdE u (H.env []) := by
  refine ⟨h.1, h.2.1, h.2.2.2.2.2.2.2.1.1, h32, arOf_sym (fun D hD => ?_)⟩
  exact ((HOk.wf h.2.2.2.2.1.1).1 D hD).1
theorem HC.D [DecidableEq Ob] {u v : iST} {H : Sp.Hs} (h : HC u H []) (g : CG f8Dn f8Dr u v) (h37 : v.1 37 = -1) : HC v H [] := by
  refine h.keep g (fun k hk => ?_) (fun k hk => g.2.2.2 k (by unfold f8Dr; simp only [Bool.or_eq_false_iff, decide_eq_false_iff_not]; omega))
  by_cases c : k = 37
  · rw [c, h37, h.2.2.2.2.2.2.2.1.1]
  · exact g.2.2.1 k (by unfold f8Dn; simp only [Bool.or_eq_false_iff, decide_eq_false_iff_not]; omega)
theorem HC.a [DecidableEq Ob] {u v : iST} {H : Sp.Hs} (h : HC u H []) (g : CG f8a f8p u v) : HC v H [] := by
  refine h.keep g (fun k hk => g.2.2.1 k ?_) (fun k hk => g.2.2.2 k (by unfold f8p; simp only [Bool.or_eq_false_iff, decide_eq_false_iff_not]; omega))
  unfold f8a f8Yn
  simp only [Bool.or_eq_false_iff, decide_eq_false_iff_not]
  omega
theorem pc_nameAsked [DecidableEq Ob] {a : Int} {Q : Int → iST → Prop} {u : iST} {H : Sp.Hs} (h : HC u H []) (va : VN u a) (hA : AtD H (oc u a) u) (hq : ∀ r, (r ≠ 0 ∧ ∀ fuel, Sp.Ran H fuel (oc u a) (Sp.nothing H)) ∨ (r = 0 ∧ NaD H (oc u a)) → Q r u) : pv_11_nameAsked a Q u := by
  obtain ⟨nm1, nm2, nm3, nm4, nm5, nm6, nm7⟩ := h.nums
  obtain ⟨hT, hD, hTo, hF, ⟨hO, l40, l60⟩, ⟨k0, hk⟩, hM, hI, hP⟩ := h
  generalize eo : oc u a = o at *
  have go : ∀ (v2 : Int), ((v2 = -1 ∧ (u.1 44 = -1 ∨ NmA u o ∧ (H.env []).thmOf (Ob.item o 1) = none)) ∨ (∃ (r : Nat) (k : Sp.Thm), v2 = (r : Int) ∧ (r : Int) < u.1 1 ∧ (H.env []).thms[r]? = some k ∧ NmA u o ∧ (H.env []).thmOf (Ob.item o 1) = some k)) → pv_7_left a (fun v3 u =>
  br (v3 = 20) (
    rd (u.1 44) (fun v4 => 
    pv_0_functionOf v4 (fun v5 u => 
    br (v5 = (-1)) (
      rd (u.1 0) (fun v6 => 
      br (40 ≤ v6) (
        Q 8 u) (
        Q 0 u))) (
      Q 3 u)) u)) (
  br (v3 = 21) (
    br (v2 = (-1)) (
      rd (u.1 1) (fun v8 => 
      br (60 ≤ v8) (
        Q 8 u) (
        Q 0 u))) (
      Q 3 u)) (
  br (v3 = 22) (
    br (v2 = (-1)) (
      rd (u.1 1) (fun v10 => 
      br (60 ≤ v10) (
        Q 8 u) (
        Q 0 u))) (
      Q 3 u)) (
  br (v3 = 23) (
    br (v2 = (-1)) (
      Q 3 u) (
      bdp v2 60 (rd (u.2.1 7 v2) (fun v12 => 
      br (v12 = (-1)) (
        Q 3 u) (
        Q 0 u))))) (
  br (v3 = 24) (
    br (v2 = (-1)) (
      Q 3 u) (
      bdp v2 60 (rd (u.2.1 7 v2) (fun v14 => 
      br (v14 = (-1)) (
        Q 3 u) (
        Q 0 u))))) (
  br (v3 = 25) (
    rd (u.1 2) (fun v16 => 
    br (v16 ≤ 0) (
      Q 3 u) (
      Q 0 u))) (
  Q 0 u))))))) u := by
    intro v2 hv2
    refine pc_left hT va (fun f vf ef => ?_)
    rw [eo] at ef
    have kf : ∀ (c : Int) (s : Ob), 0 ≤ c → c < 44 → Ob.knownC[c.toNat]? = some s → (f = c ↔ Ob.lft o = s) := fun c s c0 c1 hs => by
      rw [← ef]; exact katC hT c c0 c1 hs vf.1 vf.2
    have k20 := kf 20 Ob.defun (by decide) (by decide) rfl
    have k21 := kf 21 Ob.defthm (by decide) (by decide) rfl
    have k22 := kf 22 Ob.check (by decide) (by decide) rfl
    have k23 := kf 23 Ob.on (by decide) (by decide) rfl
    have k24 := kf 24 Ob.off (by decide) (by decide) rfl
    have k25 := kf 25 Ob.undo (by decide) (by decide) rfl
    have kn : ∀ (c : Int) (s : Ob), (f = c ↔ Ob.lft o = s) → f ≠ c → ¬ Ob.lft o = s := fun c s h1 h2 z => h2 (h1.mpr z)
    have nn : ∀ (c d : Int) (s : Ob), f = c → c ≠ d → (f = d ↔ Ob.lft o = s) → ¬ Ob.lft o = s := fun c d s h1 h2 h3 z => h2 (h1.symm.trans (h3.mpr z))
    have ne : ∀ (s s' : List Int), Ob.lft o = Ob.sym s → Ob.enc s ≠ Ob.enc s' → ¬ Ob.lft o = Ob.sym s' := fun s s' h1 h2 z => Ob.sym_ne h2 (h1.symm.trans z)
    -- a theorem is coming
    have thm : (Ob.lft o = Ob.defthm ∨ Ob.lft o = Ob.check) → NmA u o → ((H.env []).thmOf (Ob.item o 1) = none ∧ H.2.1.length < 60 → Q 0 u) ∧ (((H.env []).thmOf (Ob.item o 1)).isSome = true ∨ H.2.1.length = 60 → ∀ r, r ≠ 0 → Q r u) := fun hh hN => by
      refine ⟨fun q => hq 0 (Or.inr ⟨rfl, fun _ => q, fun z => ?_, fun z => ?_, fun z => ?_⟩), fun q r r0 => hq r (Or.inl ⟨r0, fun fuel => ?_⟩)⟩
      · rcases hh with e | e
        · exact absurd z (ne _ _ e (by decide))
        · exact absurd z (ne _ _ e (by decide))
      · rcases hh with e | e
        · exact z.elim (fun z => absurd z (ne _ _ e (by decide))) (fun z => absurd z (ne _ _ e (by decide)))
        · exact z.elim (fun z => absurd z (ne _ _ e (by decide))) (fun z => absurd z (ne _ _ e (by decide)))
      · rcases hh with e | e
        · exact absurd z (ne _ _ e (by decide))
        · exact absurd z (ne _ _ e (by decide))
      · rcases hh with e | e
        · by_cases h2 : (2 : Int) < Ob.len o ∧ Sp.hintsAsk (H.env []) ((Ob.toList o).drop 3) ≠ 2
          · cases eF : Sp.rdAt (H.env []) o 2 with
            | none => exact Ran_defthm e (RanT_2 eF)
            | some F => exact Ran_defthm e ((RanT_3 ⟨h2.1, fun _ => hN.2.2, h2.2⟩ eF).1 (Or.inr ⟨rfl, q⟩) rfl)
          · exact Ran_defthm e (RanT_1 (fun z => h2 ⟨z.1, z.2.2⟩))
        · refine Ran_check e ?_
          split
          · rw [if_pos q]
          · rfl
    have thmB : (Ob.lft o = Ob.defthm ∨ Ob.lft o = Ob.check) → NmA u o → br (v2 = (-1)) (rd (u.1 1) (fun v8 => br (60 ≤ v8) (Q 8 u) (Q 0 u))) (Q 3 u) := fun hh hN => by
      obtain ⟨t1, t2⟩ := thm hh hN
      rcases hv2 with ⟨q1, q2⟩ | ⟨r, k, q1, q2, q3, q4, q5⟩
      · refine ⟨fun _ => ?_, fun z => absurd q1 z⟩
        intro v8 e8 _
        have hno : (H.env []).thmOf (Ob.item o 1) = none := by
          rcases q2 with z | z
          · have := hN.1.1; omega
          · exact z.2
        exact ⟨fun c => t2 (Or.inr (by omega)) 8 (by decide), fun c => t1 ⟨hno, by omega⟩⟩
      · refine ⟨fun z => by omega, fun _ => t2 (Or.inl (by rw [q5]; rfl)) 3 (by decide)⟩
    have turn : (Ob.lft o = Ob.on ∨ Ob.lft o = Ob.off) → NmA u o → br (v2 = (-1)) (Q 3 u) (bdp v2 60 (rd (u.2.1 7 v2) (fun v12 => br (v12 = (-1)) (Q 3 u) (Q 0 u)))) := fun hh hN => by
      have bad : ¬ ((H.env []).thmOf (Ob.item o 1)).any (fun k => k.rule.isSome) = true → Q 3 u := fun hb => hq 3 (Or.inl ⟨by decide, fun fuel => Ran_turn hh (by rw [if_neg (fun z => hb z.2.2)])⟩)
      rcases hv2 with ⟨q1, q2⟩ | ⟨r, k, q1, q2, q3, q4, q5⟩
      · refine ⟨fun _ => bad (fun z => ?_), fun z => absurd q1 z⟩
        rcases q2 with q | q
        · have := hN.1.1; omega
        · rw [q.2] at z; cases z
      · refine ⟨fun z => by omega, fun _ => ?_⟩
        intro _ _ v12 e12 _
        rw [q1] at e12
        obtain ⟨_, ⟨k', e', h'⟩, _⟩ := hTo.2 r q2
        rw [q3] at e'
        have e' := Option.some.inj e'
        rw [← e'] at h'
        have hru : k.rule = rulC u (r : Int) := h'.2.2
        refine ⟨fun c => bad (fun z => ?_), fun c => hq 0 (Or.inr ⟨rfl, fun z => ?_, fun z => ?_, fun _ => ?_, fun z => ?_⟩)⟩
        · rw [q5] at z
          have z : k.rule.isSome = true := z
          rw [hru] at z
          unfold rulC at z
          rw [if_pos (by rw [← e12]; exact c)] at z
          cases z
        · rcases hh with e | e
          · exact z.elim (fun z => absurd z (ne _ _ e (by decide))) (fun z => absurd z (ne _ _ e (by decide)))
          · exact z.elim (fun z => absurd z (ne _ _ e (by decide))) (fun z => absurd z (ne _ _ e (by decide)))
        · rcases hh with e | e
          · exact absurd z (ne _ _ e (by decide))
          · exact absurd z (ne _ _ e (by decide))
        · rw [q5]
          show k.rule.isSome = true
          rw [hru]
          unfold rulC
          rw [if_neg (by rw [← e12]; exact c)]
          rfl
        · rcases hh with e | e
          · exact absurd z (ne _ _ e (by decide))
          · exact absurd z (ne _ _ e (by decide))
    have nmA : (Ob.lft o = Ob.defthm ∨ Ob.lft o = Ob.check ∨ Ob.lft o = Ob.on ∨ Ob.lft o = Ob.off ∨ Ob.lft o = Ob.defun) → NmA u o := fun hh => by
      have no : ∀ s : List Int, Ob.lft o = Ob.sym s → Ob.enc s ≠ Ob.enc [100, 101, 102, 116, 104, 109] → Ob.enc s ≠ Ob.enc [99, 104, 101, 99, 107] → Ob.enc s ≠ Ob.enc [111, 110] → Ob.enc s ≠ Ob.enc [111, 102, 102] → Ob.enc s ≠ Ob.enc [100, 101, 102, 117, 110] → NmA u o := fun s hs a1 a2 a3 a4 a5 => by
        rcases hh with e | e | e | e | e
        · exact absurd (hs.symm.trans e) (Ob.sym_ne a1)
        · exact absurd (hs.symm.trans e) (Ob.sym_ne a2)
        · exact absurd (hs.symm.trans e) (Ob.sym_ne a3)
        · exact absurd (hs.symm.trans e) (Ob.sym_ne a4)
        · exact absurd (hs.symm.trans e) (Ob.sym_ne a5)
      rcases hA with ⟨q, t⟩ | ⟨q, t⟩ | ⟨k, q, t⟩ | ⟨q, t⟩ | ⟨q, t⟩ | ⟨q, t⟩ | ⟨q, t⟩
      · exact no _ q.1 (by decide) (by decide) (by decide) (by decide) (by decide)
      · exact no _ q.1 (by decide) (by decide) (by decide) (by decide) (by decide)
      · rcases q.1 with p | p
        · exact no _ p.1 (by decide) (by decide) (by decide) (by decide) (by decide)
        · exact p.2.2
      · exact q.2.1
      · exact q.2.2.1
      · exact q.2.2
      · exact no _ q.1 (by decide) (by decide) (by decide) (by decide) (by decide)
    refine ⟨fun c => ?_, fun c20 => ⟨fun c => ?_, fun c21 => ⟨fun c => ?_, fun c22 => ⟨fun c => ?_, fun c23 => ⟨fun c => ?_, fun c24 => ⟨fun c => ?_, fun c25 => ?_⟩⟩⟩⟩⟩⟩
    · have ho := k20.mp c
      have hN := nmA (Or.inr (Or.inr (Or.inr (Or.inr ho))))
      intro v4 e4 _
      rw [e4]
      have dfn : Q 0 u ∨ True := Or.inr trivial
      have bad : ((H.env []).dfn (Ob.item o 1)).isSome = true ∨ H.1.length = 40 → ∀ r, r ≠ 0 → Q r u := fun hb r r0 => hq r (Or.inl ⟨r0, fun fuel => by
        rcases hA with ⟨q, t⟩ | ⟨q, t⟩ | ⟨k, q, t⟩ | ⟨q, t⟩ | ⟨q, t⟩ | ⟨q, t⟩ | ⟨q, t⟩
        · exact absurd q.1 (ne _ _ ho (by decide))
        · exact absurd q.1 (ne _ _ ho (by decide))
        · rcases q.1 with p | p
          · exact absurd p.1 (ne _ _ ho (by decide))
          · exact absurd p.1 (ne _ _ ho (by decide))
        · rcases q.2.2 with p | ⟨_, B, m, a1, a2, a3, a4, _⟩
          · exact absurd p.1 (by decide)
          · exact Ran_defun ho ((RanD_4 a1 a2 a3).2.1 a4 hb rfl)
        · exact absurd q.1 (ne _ _ ho (by decide))
        · rcases q.1 with p | p
          · exact absurd p (ne _ _ ho (by decide))
          · exact absurd p (ne _ _ ho (by decide))
        · exact absurd q.1 (ne _ _ ho (by decide))⟩)
      refine pc_functionOf hT hD hN.1 (fun hno => ⟨fun _ => ?_, fun z => absurd rfl z⟩) (fun d d0 d1 _ hs => ⟨fun z => by omega, fun _ => bad (Or.inl ?_) 3 (by decide)⟩)
      · rw [hN.2.1] at hno
        intro v6 e6 _
        refine ⟨fun c => bad (Or.inr (by omega)) 8 (by decide), fun c => hq 0 (Or.inr ⟨rfl, fun z => ?_, fun _ => ⟨hno, by omega⟩, fun z => ?_, fun z => ?_⟩)⟩
        · exact z.elim (fun z => absurd z (ne _ _ ho (by decide))) (fun z => absurd z (ne _ _ ho (by decide)))
        · exact z.elim (fun z => absurd z (ne _ _ ho (by decide))) (fun z => absurd z (ne _ _ ho (by decide)))
        · exact absurd z (ne _ _ ho (by decide))
      · rw [hN.2.1] at hs
        rw [hs]
        rfl
    · exact thmB (Or.inl (k21.mp c)) (nmA (Or.inl (k21.mp c)))
    · exact thmB (Or.inr (k22.mp c)) (nmA (Or.inr (Or.inl (k22.mp c))))
    · exact turn (Or.inl (k23.mp c)) (nmA (Or.inr (Or.inr (Or.inl (k23.mp c)))))
    · exact turn (Or.inr (k24.mp c)) (nmA (Or.inr (Or.inr (Or.inr (Or.inl (k24.mp c))))))
    · have ho := k25.mp c
      intro v16 e16 _
      have hl : H.2.2.length = (u.1 2).toNat := by rw [hk, kdC_len]
      refine ⟨fun c => hq 3 (Or.inl ⟨by decide, fun fuel => Ran_undo ho ?_⟩), fun c => hq 0 (Or.inr ⟨rfl, fun z => ?_, fun z => ?_, fun z => ?_, fun _ z => ?_⟩)⟩
      · have : H.2.2 = [] := List.eq_nil_of_length_eq_zero (by omega)
        rw [if_neg (fun z => z.2 this)]
      · exact z.elim (fun z => absurd z (ne _ _ ho (by decide))) (fun z => absurd z (ne _ _ ho (by decide)))
      · exact absurd z (ne _ _ ho (by decide))
      · exact z.elim (fun z => absurd z (ne _ _ ho (by decide))) (fun z => absurd z (ne _ _ ho (by decide)))
      · rw [z] at hl
        have hl : 0 = (u.1 2).toNat := hl
        omega
    · exact hq 0 (Or.inr ⟨rfl, fun z => z.elim (fun z => absurd z (kn _ _ k21 c21)) (fun z => absurd z (kn _ _ k22 c22)), fun z => absurd z (kn _ _ k20 c20), fun z => z.elim (fun z => absurd z (kn _ _ k23 c23)) (fun z => absurd z (kn _ _ k24 c24)), fun z => absurd z (kn _ _ k25 c25)⟩)
  unfold pv_11_nameAsked
  intro v1 e1 _
  rw [e1]
  by_cases c : u.1 44 = -1
  · rw [c]
    exact pc_theoremOf0 hTo (go (-1) (Or.inl ⟨rfl, Or.inl c⟩))
  · have hN : NmA u o := by
      rcases hA with ⟨q, t⟩ | ⟨q, t⟩ | ⟨k, q, t⟩ | ⟨q, t⟩ | ⟨q, t⟩ | ⟨q, t⟩ | ⟨q, t⟩
      · exact absurd t.1 c
      · exact absurd t.1 c
      · rcases q.1 with p | p
        · exact absurd (t.1 p.2) c
        · exact p.2.2
      · exact q.2.1
      · exact q.2.2.1
      · exact q.2.2
      · exact absurd t.1 c
    refine pc_theoremOf hT hTo hN.1 (fun hno => go (-1) (Or.inl ⟨rfl, Or.inr ⟨hN, ?_⟩⟩)) (fun r k hr ek e5 hs => go (r : Int) (Or.inr ⟨r, k, rfl, hr, ek, hN, ?_⟩))
    · rw [hN.2.1] at hno; exact hno
    · rw [hN.2.1] at hs; exact hs
