-- deps: 716
/-! the class: evaluation: what is made is never less; BASE functions -/
def cntE [DecidableEq Ob] {α : Type} (R : EStateM.Result Int Sp.Ek α) : Nat := match R with | .ok _ s => s.2.2 | .error _ s => s.2.2
def stpE [DecidableEq Ob] {α : Type} (R : EStateM.Result Int Sp.Ek α) : Nat := match R with | .ok _ s => s.1 | .error _ s => s.1
def FitE [DecidableEq Ob] {α : Type} (B : Int) (R : EStateM.Result Int Sp.Ek α) : Prop := B + (cntE R : Int) ≤ 160000
def MonE [DecidableEq Ob] {α : Type} (m : Sp.ME α) : Prop := ∀ s, s.2.2 ≤ cntE (m s) ∧ stpE (m s) ≤ s.1
theorem MonE.bd [DecidableEq Ob] {α β : Type} {m : Sp.ME α} {k : α → Sp.ME β} (h : MonE m) (g : ∀ a, MonE (k a)) : MonE (Sp.bd m k) := fun s => by
  have h1 := h s
  cases e : m s with
  | ok a s1 =>
    rw [bind_ok e]
    rw [e] at h1
    have h2 := g a s1
    exact ⟨Nat.le_trans h1.1 h2.1, Nat.le_trans h2.2 h1.2⟩
  | error x s1 =>
    rw [bind_err e]
    rw [e] at h1
    exact h1
theorem evArgs_mon [DecidableEq Ob] {r : Ob → Sp.ME Ob} (h : ∀ o, MonE (r o)) : ∀ l : List Ob, MonE (Sp.evArgs r l)
  | [] => fun s => ⟨Nat.le_refl _, Nat.le_refl _⟩
  | a :: l => MonE.bd (h a) (fun v => MonE.bd (evArgs_mon h l) (fun vs => fun s => ⟨Nat.le_refl _, Nat.le_refl _⟩))
theorem ev_mon [DecidableEq Ob] {E : Sp.Env} : ∀ (d : Nat) (env : Ob → Ob) (o : Ob), MonE (Sp.ev E d env o)
  | 0, env, o => fun s => by
    unfold Sp.ev
    split
    · exact ⟨Nat.le_refl _, Nat.le_refl _⟩
    · split
      · exact ⟨Nat.le_refl _, Nat.le_refl _⟩
      · exact ⟨Nat.le_refl _, Nat.le_refl _⟩
  | d + 1, env, o => fun s => by
    unfold Sp.ev
    split
    · exact ⟨Nat.le_refl _, Nat.le_refl _⟩
    · split
      · exact ⟨Nat.le_refl _, Nat.le_refl _⟩
      · show _ ≤ cntE (if s.2.1 = 0 then _ else if s.1 = 0 then _ else _) ∧ stpE (if s.2.1 = 0 then _ else if s.1 = 0 then _ else _) ≤ _
        split
        · exact ⟨Nat.le_refl _, Nat.le_refl _⟩
        · split
          · exact ⟨Nat.le_refl _, Nat.le_refl _⟩
          · have key : ∀ m : Sp.ME Ob, MonE m → s.2.2 ≤ cntE (m (s.1 - 1, s.2.1 - 1, s.2.2)) ∧ stpE (m (s.1 - 1, s.2.1 - 1, s.2.2)) ≤ s.1 := fun m hm => by
              have := hm (s.1 - 1, s.2.1 - 1, s.2.2)
              exact ⟨this.1, Nat.le_trans this.2 (Nat.sub_le _ _)⟩
            refine key _ ?_
            split
            · exact MonE.bd (ev_mon d env _) (fun a => ev_mon d env _)
            · refine MonE.bd (evArgs_mon (ev_mon d env) _) (fun vs => ?_)
              split
              · exact ev_mon d _ _
              · split
                · exact fun s => ⟨Nat.le_succ _, Nat.le_refl _⟩
                · exact fun s => ⟨Nat.le_refl _, Nat.le_refl _⟩
theorem FitE.bd [DecidableEq Ob] {α β : Type} {B : Int} {m : Sp.ME α} {k : α → Sp.ME β} {s : Sp.Ek} (h : FitE B (Sp.bd m k s)) (g : ∀ a, MonE (k a)) : FitE B (m s) := by
  unfold FitE at h ⊢
  cases e : m s with
  | ok a s1 =>
    rw [bind_ok e] at h
    have := (g a s1).1
    show B + (s1.2.2 : Int) ≤ 160000
    omega
  | error x s1 =>
    rw [bind_err e] at h
    exact h
def f8En (k : Nat) : Bool := decide (4 ≤ k ∧ k ≤ 9) || decide (k = 29) || decide (31 ≤ k ∧ k ≤ 32)
def f8Er (k : Nat) : Bool := decide (16 ≤ k ∧ k ≤ 22) || decide (27 ≤ k ∧ k ≤ 30)
theorem f8M_En [DecidableEq Ob] : ∀ k, f8En k = false → f8M k = false := fun k h => by
  unfold f8En at h
  rw [Bool.or_eq_false_iff, Bool.or_eq_false_iff] at h
  exact h.1.2
theorem f8R_Er [DecidableEq Ob] : ∀ k, f8Er k = false → f8R k = false := fun k h => by
  unfold f8Er at h
  rw [Bool.or_eq_false_iff] at h
  exact h.2
theorem f8S_En [DecidableEq Ob] : ∀ k, f8En k = false → f8S k = false := fun k h => by
  unfold f8En at h
  rw [Bool.or_eq_false_iff] at h
  exact h.2
theorem oc_nil [DecidableEq Ob] {u : iST} (hT : CT u) {k : Int} (hk : VN u k) : k = 0 ↔ oc u k = Ob.nil := katC hT 0 (by decide) (by decide) rfl hk.1 hk.2
/-- a natural is made -/
theorem pc_natural [DecidableEq Ob] {x : Int} {Q : Int → iST → Prop} {u : iST} (hT : CT u) (hr : u.1 29 < 160000) (x0 : 0 ≤ x) (x1 : x ≤ 4611686018427387903) (hq : ∀ k v, CG f8M f8R u v → VN v k → oc v k = .nat x → v.1 29 ≤ u.1 29 + 1 → Q k v) : pv_7_made x Q u := by
  refine pc_made hT hr ⟨fun z => by omega, fun z => by omega⟩ (fun k v g k0 k1 ek hk => hq k v g ⟨k0, k1⟩ ?_ hk)
  rw [oc_nat (by rw [ek]; exact x0) (by rw [ek]; omega), ek]
theorem num_pos [DecidableEq Ob] (o : Ob) : 0 ≤ o.num := by
  cases o with
  | op a b => exact Int.le_refl _
  | var x =>
    show 0 ≤ (if x % 2 = 0 then ((x / 2 : Nat) : Int) else 0)
    split <;> omega
theorem oc_num [DecidableEq Ob] {u : iST} (hT : CT u) {k : Int} (h : VN u k) : (oc u k).num ≤ 4611686018427387903 := by
  rcases CIc.cases u k with a | a | a
  · rw [oc_pr hT.1 h.1 h.2 a]; show (0 : Int) ≤ _; decide
  · rw [oc_nat a.1 a.2, Ob.nat_num a.1]; omega
  · rw [oc_sym a, Ob.sym_num]; decide
theorem hgt_pos [DecidableEq Ob] (o : Ob) : 0 ≤ o.hgt := by
  cases o with
  | var x => exact Int.le_refl _
  | op a b =>
    have h1 := hgt_pos a
    have h2 := hgt_pos b
    show 0 ≤ 1 + (if Ob.hgt b < Ob.hgt a then Ob.hgt a else Ob.hgt b)
    split <;> omega
theorem hgt_le [DecidableEq Ob] {u : iST} (hT : CT u) : ∀ (n : Nat) (k : Int), k.toNat < n → VN u k → (oc u k).hgt ≤ k
  | 0, k, h, _ => by omega
  | n + 1, k, h, hk => by
    have k0 := hk.1
    rcases CIc.cases u k with a | a | a
    · obtain ⟨vl, vr, l1, r1, e⟩ := oc_sides hT hk a
      have h1 := hgt_le hT n _ (by have := vl.1; omega) vl
      have h2 := hgt_le hT n _ (by have := vr.1; omega) vr
      rw [e]
      show 1 + (if Ob.hgt (oc u (cR (u.2.2 k))) < Ob.hgt (oc u (cL (u.2.2 k))) then Ob.hgt (oc u (cL (u.2.2 k))) else Ob.hgt (oc u (cR (u.2.2 k)))) ≤ k
      split <;> omega
    · rw [oc_nat a.1 a.2]; exact k0
    · rw [oc_sym a]; exact k0
theorem wlsub_eq' [DecidableEq Ob] {x y : Int} (h : inL (x - y)) : wlsub x y = x - y := by
  unfold wlsub jL
  rw [← Int64.ofInt_sub]
  exact jL_toInt h
/-- the value of a BASE function other than IF -/
theorem pc_baseValue [DecidableEq Ob] {f a b c : Int} {Q : Int → iST → Prop} {u : iST} {E : Sp.Env} (hT : CT u) (hr : Ob.base (oc u f) (oc u a) (if Sp.arOf E (oc u f) = 2 then oc u b else Ob.nil) ≠ none → u.1 29 < 160000) (hf : 4 ≤ f ∧ f ≤ 16) (ha : VN u a) (hb : Sp.arOf E (oc u f) = 2 → VN u b) (hq : ∀ r v, CG f8M f8R u v → v.1 29 ≤ u.1 29 + 1 → ((r = -1 ∧ v.1 29 ≤ u.1 29 ∧ Ob.base (oc u f) (oc u a) (if Sp.arOf E (oc u f) = 2 then oc u b else Ob.nil) = none) ∨ (VN v r ∧ Ob.base (oc u f) (oc u a) (if Sp.arOf E (oc u f) = 2 then oc u b else Ob.nil) = some (oc v r))) → Q r v) : pv_2_baseValue f a b c Q u := by
  have hfv : VN u f := ⟨by omega, by have := hT.1.1.1; omega⟩
  have kf := hT.2.2.2 f.toNat (by omega)
  rw [show ((f.toNat : Nat) : Int) = f by omega] at kf
  have har := arOf_base (E := E) (i := f.toNat) (by omega) (by omega) kf.symm
  obtain ⟨z0, z1⟩ := VN.zero hT
  obtain ⟨t0, t1, t2⟩ := knC hT 1 (o := Ob.t) (by decide) (by decide) rfl
  have kk : ∀ (k : Int) (o : Ob), 0 ≤ k → k < 44 → Ob.knownC[k.toNat]? = some o → (f = k ↔ oc u f = o) := fun k o k0 k4 ho => katC hT k k0 k4 ho hfv.1 hfv.2
  have kn : ∀ (k : Int) (o : Ob), 0 ≤ k → k < 44 → Ob.knownC[k.toNat]? = some o → ¬ f = k → ¬ oc u f = o := fun k o k0 k4 ho hn z => hn ((kk k o k0 k4 ho).mpr z)
  have two : f ≤ 9 → Sp.arOf E (oc u f) = 2 := fun h => by rw [har, if_neg (by omega), if_pos (by omega)]
  have one : 10 ≤ f → Sp.arOf E (oc u f) ≠ 2 := fun h => by rw [har, if_neg (by omega), if_neg (by omega)]; decide
  -- truth values
  have tr : ∀ p : Prop, [Decidable p] → Ob.base (oc u f) (oc u a) (if Sp.arOf E (oc u f) = 2 then oc u b else Ob.nil) = some (Ob.tr (decide p)) → (p → Q 1 u) ∧ (¬ p → Q 0 u) := by
    intro p _ hbs
    refine ⟨fun hp => hq 1 u (CG.rf hT) (by omega) (Or.inr ⟨⟨t0, t1⟩, ?_⟩), fun hp => hq 0 u (CG.rf hT) (by omega) (Or.inr ⟨z0, ?_⟩)⟩
    · rw [hbs, decide_eq_true hp, t2]; rfl
    · rw [hbs, decide_eq_false hp, z1]; rfl
  have trb : ∀ q : Bool, Ob.base (oc u f) (oc u a) (if Sp.arOf E (oc u f) = 2 then oc u b else Ob.nil) = some (Ob.tr q) → (∀ r, bq r q → br (r = 0) (Q 0 u) (Q 1 u)) := by
    intro q hbs r hr'
    refine ⟨fun z => hq 0 u (CG.rf hT) (by omega) (Or.inr ⟨z0, ?_⟩), fun z => hq 1 u (CG.rf hT) (by omega) (Or.inr ⟨⟨t0, t1⟩, ?_⟩)⟩
    · rw [hbs, hr'.f z, z1]; rfl
    · rw [hbs, hr'.t z, t2]; rfl
  unfold pv_2_baseValue
  refine ⟨fun c3 => by omega, fun n3 => ⟨fun c4 => ?_, fun n4 => ⟨fun c5 => ?_, fun n5 => ⟨fun c6 => ?_, fun n6 => ⟨fun c7 => ?_, fun n7 => ⟨fun c8 => ?_, fun n8 => ⟨fun c9 => ?_, fun n9 => ⟨fun c10 => ?_, fun n10 => ⟨fun c11 => ?_, fun n11 => ⟨fun c12 => ?_, fun n12 => ⟨fun c13 => ?_, fun n13 => ⟨fun c14 => ?_, fun n14 => ⟨fun c15 => ?_, fun n15 => ?_⟩⟩⟩⟩⟩⟩⟩⟩⟩⟩⟩⟩⟩
  · -- equal
    have hb := hb (two (by omega))
    have inj := hT.1.inj ha.1 ha.2 hb.1 hb.2
    have hbs : Ob.base (oc u f) (oc u a) (if Sp.arOf E (oc u f) = 2 then oc u b else Ob.nil) = some (Ob.tr (decide (oc u a = oc u b))) := by
      rw [if_pos (two (by omega)), (kk 4 Ob.equal (by decide) (by decide) rfl).mp c4]
      exact if_pos rfl
    obtain ⟨p1, p2⟩ := tr (oc u a = oc u b) hbs
    exact ⟨fun z => p2 (fun q => z (inj.mp q)), fun z => p1 (inj.mpr (Decidable.not_not.mp z))⟩
  · -- cons
    have hb := hb (two (by omega))
    have hbs : Ob.base (oc u f) (oc u a) (if Sp.arOf E (oc u f) = 2 then oc u b else Ob.nil) = some (.pr (oc u a) (oc u b)) := by
      rw [if_pos (two (by omega)), (kk 5 Ob.cons (by decide) (by decide) rfl).mp c5]
      unfold Ob.base
      rw [if_neg (show ¬ Ob.cons = Ob.equal from Ob.sym_ne (by decide)), if_pos rfl]
    refine pc_pair hT ha hb (hr (by rw [hbs]; exact fun z => by cases z)) (fun k v g vk ek hk => hq k v g hk (Or.inr ⟨vk, ?_⟩))
    rw [hbs, ek]
  · -- implies
    have hb := hb (two (by omega))
    have na := oc_nil hT ha
    have nb := oc_nil hT hb
    have hbs : Ob.base (oc u f) (oc u a) (if Sp.arOf E (oc u f) = 2 then oc u b else Ob.nil) = some (Ob.tr (decide (oc u a = Ob.nil) || decide (oc u b ≠ Ob.nil))) := by
      rw [if_pos (two (by omega)), (kk 6 Ob.implies (by decide) (by decide) rfl).mp c6]
      unfold Ob.base
      rw [if_neg (show ¬ Ob.implies = Ob.equal from Ob.sym_ne (by decide)), if_neg (show ¬ Ob.implies = Ob.cons from Ob.sym_ne (by decide)), if_pos rfl]
    have y1 : (decide (oc u a = Ob.nil) || decide (oc u b ≠ Ob.nil)) = true → Q 1 u := fun e => hq 1 u (CG.rf hT) (by omega) (Or.inr ⟨⟨t0, t1⟩, by rw [hbs, e, t2]; rfl⟩)
    refine ⟨fun z => y1 (by rw [decide_eq_true (na.mp z)]; rfl), fun z => ⟨fun z2 => y1 ?_, fun z2 => hq 0 u (CG.rf hT) (by omega) (Or.inr ⟨z0, ?_⟩)⟩⟩
    · rw [decide_eq_true (show oc u b ≠ Ob.nil from fun q => z2 (nb.mpr q)), Bool.or_true]
    · rw [hbs, decide_eq_false (fun q => z (na.mpr q)), decide_eq_false (fun q => q (nb.mp (Decidable.not_not.mp z2))), z1]; rfl
  · -- plus
    have hb := hb (two (by omega))
    have hbs : Ob.base (oc u f) (oc u a) (if Sp.arOf E (oc u f) = 2 then oc u b else Ob.nil) = (if 4611686018427387903 < (oc u a).num + (oc u b).num then none else some (.nat ((oc u a).num + (oc u b).num))) := by
      rw [if_pos (two (by omega)), (kk 7 Ob.plus (by decide) (by decide) rfl).mp c7]
      unfold Ob.base
      rw [if_neg (show ¬ Ob.plus = Ob.equal from Ob.sym_ne (by decide)), if_neg (show ¬ Ob.plus = Ob.cons from Ob.sym_ne (by decide)), if_neg (show ¬ Ob.plus = Ob.implies from Ob.sym_ne (by decide)), if_pos rfl]
    have pa := num_pos (oc u a)
    have pb := num_pos (oc u b)
    have la := oc_num hT ha
    have lb := oc_num hT hb
    refine pc_numberOf hT ha (pc_numberOf hT hb ?_)
    intro s es _
    rw [wladd_eq ⟨by omega, by omega⟩] at es
    rw [es]
    refine ⟨fun z => pc_natural hT (hr (by rw [hbs, if_neg (by omega)]; exact fun z => by cases z)) (by omega) z (fun k v g vk ek hk => hq k v g hk (Or.inr ⟨vk, ?_⟩)), fun z => hq (-1) u (CG.rf hT) (by omega) (Or.inl ⟨rfl, Int.le_refl _, ?_⟩)⟩
    · rw [hbs, if_neg (by omega), ek]
    · rw [hbs, if_pos (by omega)]
  · -- minus
    have hb := hb (two (by omega))
    have hbs : Ob.base (oc u f) (oc u a) (if Sp.arOf E (oc u f) = 2 then oc u b else Ob.nil) = some (.nat (if (oc u b).num < (oc u a).num then (oc u a).num - (oc u b).num else 0)) := by
      rw [if_pos (two (by omega)), (kk 8 Ob.minus (by decide) (by decide) rfl).mp c8]
      unfold Ob.base
      rw [if_neg (show ¬ Ob.minus = Ob.equal from Ob.sym_ne (by decide)), if_neg (show ¬ Ob.minus = Ob.cons from Ob.sym_ne (by decide)), if_neg (show ¬ Ob.minus = Ob.implies from Ob.sym_ne (by decide)), if_neg (show ¬ Ob.minus = Ob.plus from Ob.sym_ne (by decide)), if_pos rfl]
    have pa := num_pos (oc u a)
    have pb := num_pos (oc u b)
    have la := oc_num hT ha
    have lb := oc_num hT hb
    refine pc_numberOf hT ha (pc_numberOf hT hb ?_)
    intro s es hs
    have es' : s = (oc u a).num - (oc u b).num := by
      rw [es]; exact wlsub_eq' ⟨by omega, by omega⟩
    rw [es']
    unfold pv_2_baseValue_195
    refine ⟨fun z => pc_natural hT (hr (by rw [hbs]; exact fun z => by cases z)) z (by omega) (fun k v g vk ek hk => hq k v g hk (Or.inr ⟨vk, ?_⟩)), fun z => pc_natural hT (hr (by rw [hbs]; exact fun z => by cases z)) (Int.le_refl _) (by decide) (fun k v g vk ek hk => hq k v g hk (Or.inr ⟨vk, ?_⟩))⟩
    · rw [hbs, ek]
      by_cases q : (oc u b).num < (oc u a).num
      · rw [if_pos q]
      · rw [if_neg q, show (oc u a).num - (oc u b).num = 0 by omega]
    · rw [hbs, ek, if_neg (by omega)]
  · -- less
    have hb := hb (two (by omega))
    have hbs : Ob.base (oc u f) (oc u a) (if Sp.arOf E (oc u f) = 2 then oc u b else Ob.nil) = some (Ob.tr (decide ((oc u a).num < (oc u b).num))) := by
      rw [if_pos (two (by omega)), (kk 9 Ob.less (by decide) (by decide) rfl).mp c9]
      unfold Ob.base
      rw [if_neg (show ¬ Ob.less = Ob.equal from Ob.sym_ne (by decide)), if_neg (show ¬ Ob.less = Ob.cons from Ob.sym_ne (by decide)), if_neg (show ¬ Ob.less = Ob.implies from Ob.sym_ne (by decide)), if_neg (show ¬ Ob.less = Ob.plus from Ob.sym_ne (by decide)), if_neg (show ¬ Ob.less = Ob.minus from Ob.sym_ne (by decide)), if_pos rfl]
    obtain ⟨p1, p2⟩ := tr ((oc u a).num < (oc u b).num) hbs
    refine pc_numberOf hT ha (pc_numberOf hT hb ⟨fun z => p2 (by omega), fun z => p1 (by omega)⟩)
  · -- consp
    have hbs : Ob.base (oc u f) (oc u a) (if Sp.arOf E (oc u f) = 2 then oc u b else Ob.nil) = some (Ob.tr (oc u a).isPr) := by
      rw [(kk 10 Ob.consp (by decide) (by decide) rfl).mp c10]
      unfold Ob.base
      rw [if_neg (show ¬ Ob.consp = Ob.equal from Ob.sym_ne (by decide)), if_neg (show ¬ Ob.consp = Ob.cons from Ob.sym_ne (by decide)), if_neg (show ¬ Ob.consp = Ob.implies from Ob.sym_ne (by decide)), if_neg (show ¬ Ob.consp = Ob.plus from Ob.sym_ne (by decide)), if_neg (show ¬ Ob.consp = Ob.minus from Ob.sym_ne (by decide)), if_neg (show ¬ Ob.consp = Ob.less from Ob.sym_ne (by decide)), if_pos rfl]
    exact pc_isPair hT ha (fun r hr' => trb _ hbs r hr')
  · -- car
    have hbs : Ob.base (oc u f) (oc u a) (if Sp.arOf E (oc u f) = 2 then oc u b else Ob.nil) = some (oc u a).lft := by
      rw [(kk 11 Ob.car (by decide) (by decide) rfl).mp c11]
      unfold Ob.base
      rw [if_neg (show ¬ Ob.car = Ob.equal from Ob.sym_ne (by decide)), if_neg (show ¬ Ob.car = Ob.cons from Ob.sym_ne (by decide)), if_neg (show ¬ Ob.car = Ob.implies from Ob.sym_ne (by decide)), if_neg (show ¬ Ob.car = Ob.plus from Ob.sym_ne (by decide)), if_neg (show ¬ Ob.car = Ob.minus from Ob.sym_ne (by decide)), if_neg (show ¬ Ob.car = Ob.less from Ob.sym_ne (by decide)), if_neg (show ¬ Ob.car = Ob.consp from Ob.sym_ne (by decide)), if_pos rfl]
    exact pc_left hT ha (fun r hr' er => hq r u (CG.rf hT) (by omega) (Or.inr ⟨hr', by rw [hbs, er]⟩))
  · -- cdr
    have hbs : Ob.base (oc u f) (oc u a) (if Sp.arOf E (oc u f) = 2 then oc u b else Ob.nil) = some (oc u a).rgt := by
      rw [(kk 12 Ob.cdr (by decide) (by decide) rfl).mp c12]
      unfold Ob.base
      rw [if_neg (show ¬ Ob.cdr = Ob.equal from Ob.sym_ne (by decide)), if_neg (show ¬ Ob.cdr = Ob.cons from Ob.sym_ne (by decide)), if_neg (show ¬ Ob.cdr = Ob.implies from Ob.sym_ne (by decide)), if_neg (show ¬ Ob.cdr = Ob.plus from Ob.sym_ne (by decide)), if_neg (show ¬ Ob.cdr = Ob.minus from Ob.sym_ne (by decide)), if_neg (show ¬ Ob.cdr = Ob.less from Ob.sym_ne (by decide)), if_neg (show ¬ Ob.cdr = Ob.consp from Ob.sym_ne (by decide)), if_neg (show ¬ Ob.cdr = Ob.car from Ob.sym_ne (by decide)), if_pos rfl]
    exact pc_right hT ha (fun r hr' er => hq r u (CG.rf hT) (by omega) (Or.inr ⟨hr', by rw [hbs, er]⟩))
  · -- natp
    have hbs : Ob.base (oc u f) (oc u a) (if Sp.arOf E (oc u f) = 2 then oc u b else Ob.nil) = some (Ob.tr (oc u a).isNat) := by
      rw [(kk 13 Ob.natp (by decide) (by decide) rfl).mp c13]
      unfold Ob.base
      rw [if_neg (show ¬ Ob.natp = Ob.equal from Ob.sym_ne (by decide)), if_neg (show ¬ Ob.natp = Ob.cons from Ob.sym_ne (by decide)), if_neg (show ¬ Ob.natp = Ob.implies from Ob.sym_ne (by decide)), if_neg (show ¬ Ob.natp = Ob.plus from Ob.sym_ne (by decide)), if_neg (show ¬ Ob.natp = Ob.minus from Ob.sym_ne (by decide)), if_neg (show ¬ Ob.natp = Ob.less from Ob.sym_ne (by decide)), if_neg (show ¬ Ob.natp = Ob.consp from Ob.sym_ne (by decide)), if_neg (show ¬ Ob.natp = Ob.car from Ob.sym_ne (by decide)), if_neg (show ¬ Ob.natp = Ob.cdr from Ob.sym_ne (by decide)), if_pos rfl]
    exact pc_isNatural hT ha (fun r hr' => trb _ hbs r hr')
  · -- symbolp
    have hbs : Ob.base (oc u f) (oc u a) (if Sp.arOf E (oc u f) = 2 then oc u b else Ob.nil) = some (Ob.tr (oc u a).isSym) := by
      rw [(kk 14 Ob.symbolp (by decide) (by decide) rfl).mp c14]
      unfold Ob.base
      rw [if_neg (show ¬ Ob.symbolp = Ob.equal from Ob.sym_ne (by decide)), if_neg (show ¬ Ob.symbolp = Ob.cons from Ob.sym_ne (by decide)), if_neg (show ¬ Ob.symbolp = Ob.implies from Ob.sym_ne (by decide)), if_neg (show ¬ Ob.symbolp = Ob.plus from Ob.sym_ne (by decide)), if_neg (show ¬ Ob.symbolp = Ob.minus from Ob.sym_ne (by decide)), if_neg (show ¬ Ob.symbolp = Ob.less from Ob.sym_ne (by decide)), if_neg (show ¬ Ob.symbolp = Ob.consp from Ob.sym_ne (by decide)), if_neg (show ¬ Ob.symbolp = Ob.car from Ob.sym_ne (by decide)), if_neg (show ¬ Ob.symbolp = Ob.cdr from Ob.sym_ne (by decide)), if_neg (show ¬ Ob.symbolp = Ob.natp from Ob.sym_ne (by decide)), if_pos rfl]
    exact pc_isSymbol hT ha (fun r hr' => trb _ hbs r hr')
  · -- height
    have hbs : Ob.base (oc u f) (oc u a) (if Sp.arOf E (oc u f) = 2 then oc u b else Ob.nil) = some (.nat (oc u a).hgt) := by
      rw [(kk 15 Ob.height (by decide) (by decide) rfl).mp c15]
      unfold Ob.base
      rw [if_neg (show ¬ Ob.height = Ob.equal from Ob.sym_ne (by decide)), if_neg (show ¬ Ob.height = Ob.cons from Ob.sym_ne (by decide)), if_neg (show ¬ Ob.height = Ob.implies from Ob.sym_ne (by decide)), if_neg (show ¬ Ob.height = Ob.plus from Ob.sym_ne (by decide)), if_neg (show ¬ Ob.height = Ob.minus from Ob.sym_ne (by decide)), if_neg (show ¬ Ob.height = Ob.less from Ob.sym_ne (by decide)), if_neg (show ¬ Ob.height = Ob.consp from Ob.sym_ne (by decide)), if_neg (show ¬ Ob.height = Ob.car from Ob.sym_ne (by decide)), if_neg (show ¬ Ob.height = Ob.cdr from Ob.sym_ne (by decide)), if_neg (show ¬ Ob.height = Ob.natp from Ob.sym_ne (by decide)), if_neg (show ¬ Ob.height = Ob.symbolp from Ob.sym_ne (by decide)), if_pos rfl]
    have h1 := hgt_pos (oc u a)
    have h2 := hgt_le hT _ a (Nat.lt_succ_self _) ha
    have h3 := ha.2
    have h4 := hT.1.1.2
    exact pc_heightOf hT ha (pc_natural hT (hr (by rw [hbs]; exact fun z => by cases z)) h1 (by omega) (fun k v g vk ek hk => hq k v g hk (Or.inr ⟨vk, by rw [hbs, ek]⟩)))
  · -- not
    have c16 : f = 16 := by omega
    have hbs : Ob.base (oc u f) (oc u a) (if Sp.arOf E (oc u f) = 2 then oc u b else Ob.nil) = some (Ob.tr (decide (oc u a = Ob.nil))) := by
      rw [(kk 16 Ob.not (by decide) (by decide) rfl).mp c16]
      unfold Ob.base
      rw [if_neg (show ¬ Ob.not = Ob.equal from Ob.sym_ne (by decide)), if_neg (show ¬ Ob.not = Ob.cons from Ob.sym_ne (by decide)), if_neg (show ¬ Ob.not = Ob.implies from Ob.sym_ne (by decide)), if_neg (show ¬ Ob.not = Ob.plus from Ob.sym_ne (by decide)), if_neg (show ¬ Ob.not = Ob.minus from Ob.sym_ne (by decide)), if_neg (show ¬ Ob.not = Ob.less from Ob.sym_ne (by decide)), if_neg (show ¬ Ob.not = Ob.consp from Ob.sym_ne (by decide)), if_neg (show ¬ Ob.not = Ob.car from Ob.sym_ne (by decide)), if_neg (show ¬ Ob.not = Ob.cdr from Ob.sym_ne (by decide)), if_neg (show ¬ Ob.not = Ob.natp from Ob.sym_ne (by decide)), if_neg (show ¬ Ob.not = Ob.symbolp from Ob.sym_ne (by decide)), if_neg (show ¬ Ob.not = Ob.height from Ob.sym_ne (by decide))]
    obtain ⟨p1, p2⟩ := tr (oc u a = Ob.nil) hbs
    have na := oc_nil hT ha
    exact ⟨fun z => p2 (fun q => z (na.mpr q)), fun z => p1 (na.mp (Decidable.not_not.mp z))⟩
