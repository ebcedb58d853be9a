-- deps: 7999825
/-! the replay, the class: what is there costs nothing; what was made is there -/
theorem pc_pairE [DecidableEq Ob] {l r : Int} {Q : Int → iST → Prop} {u : iST} (hT : CT u) (hl : VN u l) (hr : VN u r) (hm : u.1 29 < 160000 ∨ ExT u (.pr (oc u l) (oc u r))) (hq : ∀ k v, CG f8M f8R u v → VN v k → oc v k = .pr (oc u l) (oc u r) → v.1 29 ≤ u.1 29 + 1 → (ExT u (.pr (oc u l) (oc u r)) → v.1 29 = u.1 29) → Q k v) : pv_11_pairCell l r (fun c u => pv_7_made c Q u) u := by
  by_cases x : ExT u (.pr (oc u l) (oc u r))
  · exact pc_pairX hT hl hr x (fun k vk ek => hq k u (CG.rf hT) vk ek (by omega) (fun _ => rfl))
  · exact pc_pair hT hl hr (hm.resolve_right x) (fun k v g vk ek h => hq k v g vk ek h (fun z => absurd z x))
theorem pc_naturalE [DecidableEq Ob] {x : Int} {Q : Int → iST → Prop} {u : iST} (hT : CT u) (hm : u.1 29 < 160000 ∨ ExT u (.nat x)) (x0 : 0 ≤ x) (x1 : x ≤ 4611686018427387903) (hq : ∀ k v, CG f8M f8R u v → VN v k → oc v k = .nat x → v.1 29 ≤ u.1 29 + 1 → (ExT u (.nat x) → v.1 29 = u.1 29) → Q k v) : pv_7_made x Q u := by
  by_cases e : ExT u (.nat x)
  · obtain ⟨i, vi, ei⟩ := e
    have hc : u.2.2 i = x := by
      rcases CIc.cases u i with a | a | a
      · rw [oc_pr hT.1 vi.1 vi.2 a] at ei; cases ei
      · rw [oc_nat a.1 a.2] at ei; exact Ob.nat.inj ei a.1 x0
      · rw [oc_sym a] at ei; exact absurd ei.symm Ob.nat_ne
    refine pc_madeX hT vi.1 vi.2 hc (fun k k0 k1 ek => hq k u (CG.rf hT) ⟨k0, k1⟩ ?_ (by omega) (fun _ => rfl))
    rw [oc_nat (by rw [ek]; exact x0) (by rw [ek]; omega), ek]
  · exact pc_natural hT (hm.resolve_right e) x0 x1 (fun k v g vk ek h => hq k v g vk ek h (fun z => absurd z e))
theorem pc_constantOfE [DecidableEq Ob] {k : Int} {Q : Int → iST → Prop} {u : iST} (hT : CT u) (h : VN u k) (hm : u.1 29 < 159999 ∨ ExT u (Ob.constOf (oc u k))) (hq : ∀ r v, CG f8M f8R u v → VN v r → oc v r = Ob.constOf (oc u k) → v.1 29 ≤ u.1 29 + 2 → (ExT u (Ob.constOf (oc u k)) → v.1 29 = u.1 29) → Q r v) : pv_7_constantOf k Q u := by
  by_cases x : ExT u (Ob.constOf (oc u k))
  rotate_left
  · exact pc_constantOf hT h (hm.resolve_right x) (fun r v g vr er e => hq r v g vr er e (fun z => absurd z x))
  have k0 := katC hT 0 (o := Ob.nil) (by decide) (by decide) rfl h.1 h.2
  have k1 := katC hT 1 (o := Ob.t) (by decide) (by decide) rfl h.1 h.2
  have h0 := h.1
  have same : ((oc u k).isNat || decide (oc u k = Ob.nil) || decide (oc u k = Ob.t)) = true → Q k u := fun e => hq k u (CG.rf hT) h (by unfold Ob.constOf; rw [if_pos e]) (by omega) (fun _ => rfl)
  unfold pv_7_constantOf
  refine ⟨fun z => same ?_, fun z => ?_⟩
  · have hk : k = 0 ∨ k = 1 := by omega
    rcases hk with q | q
    · rw [decide_eq_true (k0.mp q), Bool.or_true]; rfl
    · rw [decide_eq_true (k1.mp q), Bool.or_true]
  · refine pc_isNatural hT h (fun r hr => ⟨fun q => ?_, fun q => same (by rw [hr.t q]; rfl)⟩)
    have e : Ob.constOf (oc u k) = .pr Ob.quote (.pr (oc u k) Ob.nil) := by
      unfold Ob.constOf
      rw [hr.f q, decide_eq_false (fun z2 => by have := k0.mpr z2; omega), decide_eq_false (fun z2 => by have := k1.mpr z2; omega)]
      rfl
    obtain ⟨z0, z1⟩ := VN.zero hT
    obtain ⟨t0, t1, t2⟩ := knC hT 2 (o := Ob.quote) (by decide) (by decide) rfl
    rw [e] at x
    refine pc_pairX hT h z0 (by rw [z1]; exact (ExT.pr hT x).2) (fun a va ea => ?_)
    refine pc_pairX hT ⟨t0, t1⟩ va (by rw [t2, ea, z1]; exact x) (fun b vb eb => hq b u (CG.rf hT) vb (by rw [eb, t2, ea, z1, e]) (by omega) (fun _ => rfl))
/-- a bound of the room, where the frame's own notes begin (none: the notes are asked again), the environment, STEPS that stay, what is there when notes are asked again, how many notes there are then -/
abbrev Sz.Bx := Int × Option Int × Sp.Env × Nat × (Ob → Prop) × Int
/-- the room and what it cost -/
def Rm [DecidableEq Ob] (B : Sz.Bx) (v : iST) (c : Sz.Co) : Prop := (∀ o, o ∈ c.2 → ExT v o) ∧ (B.2.1 ≠ none → v.1 29 ≤ B.1 + (c.1 : Int)) ∧ (B.2.1 = none → (∀ o, B.2.2.2.2.1 o → ExT v o) ∧ (AlL B.2.2.2.2.1 c → v.1 29 ≤ B.1))
/-- there is room for it -/
def FitC [DecidableEq Ob] (B : Sz.Bx) (c : Sz.Co) : Prop := (B.2.1 ≠ none → B.1 + (c.1 : Int) ≤ 160000) ∧ (B.2.1 = none → AlL B.2.2.2.2.1 c)
theorem FitC.dn [DecidableEq Ob] {B : Sz.Bx} {a b : Sz.Co} (h : FitC B b) (g : CoL a b) : FitC B a := ⟨fun z => by have := h.1 z; have := g.1; omega, fun z => (h.2 z).dn g⟩
theorem Rm.up [DecidableEq Ob] {n r : Nat → Bool} {B : Sz.Bx} {v w : iST} {c : Sz.Co} (h : Rm B v c) (hT : CT v) (g : CG n r v w) (e : w.1 29 = v.1 29) : Rm B w c := ⟨fun o ho => (h.1 o ho).up hT g, fun z => by rw [e]; exact h.2.1 z, fun z => ⟨fun o ho => ((h.2.2 z).1 o ho).up hT g, fun a => by rw [e]; exact (h.2.2 z).2 a⟩⟩
theorem Rm.made [DecidableEq Ob] {n r : Nat → Bool} {B : Sz.Bx} {v w : iST} {c : Sz.Co} {o : Ob} {k : Nat} (h : Rm B v c) (hT : CT v) (g : CG n r v w) (ho : ExT w o) (h29 : w.1 29 ≤ v.1 29 + (k : Int)) (hx : ExT v o → w.1 29 = v.1 29) : Rm B w (Sz.ad c o k) := by
  refine ⟨fun x hx => ?_, fun z => ?_, fun z => ⟨fun x hx => ((h.2.2 z).1 x hx).up hT g, fun a => ?_⟩⟩
  · rcases List.mem_cons.mp hx with q | q
    · rw [q]; exact ho
    · exact (h.1 x q).up hT g
  · have := h.2.1 z
    show w.1 29 ≤ B.1 + ((c.1 + k : Nat) : Int)
    omega
  · rw [hx ((h.2.2 z).1 o a.hd)]
    exact (h.2.2 z).2 (a.dn (CoL.ad c o k))
/-- room for what is made, where it is not there -/
theorem Rm.room [DecidableEq Ob] {B : Sz.Bx} {v : iST} {c : Sz.Co} {o : Ob} {k : Nat} (h : Rm B v c) (fit : FitC B (Sz.ad c o k)) : v.1 29 + (k : Int) ≤ 160000 ∨ ExT v o := by
  by_cases z : B.2.1 = none
  · exact Or.inr ((h.2.2 z).1 o (fit.2 z).hd)
  · have h1 := h.2.1 z
    have h2 : B.1 + ((c.1 + k : Nat) : Int) ≤ 160000 := fit.1 z
    exact Or.inl (by omega)
