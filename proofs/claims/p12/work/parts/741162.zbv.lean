-- deps: 799986
def FitE_z [DecidableEq Ob] {α : Type} (B : Sz.Bx) (R : EStateM.Result Int Sz.Ek α) : Prop := FitC B (coE R)
theorem FitE_z.bd [DecidableEq Ob] {α β : Type} {B : Sz.Bx} {m : Sz.ME α} {k : α → Sz.ME β} {s : Sz.Ek} (h : FitE_z B (Sp.bd m k s)) (g : ∀ a, MonE_z (k a)) : FitE_z B (m s) := by
  cases e : m s with
  | ok a s1 =>
    rw [bind_ok e] at h
    exact FitC.dn h (g a s1).1
  | error x s1 =>
    rw [bind_err e] at h
    exact h
/-- the value of a BASE function other than IF -/
theorem pc_baseValue_z [DecidableEq Ob] {f a b c : Int} {Q : Int → iST → Prop} {u : iST} {E : Sp.Env} (hT : CT u) (hr : ∀ val, Ob.base (oc u f) (oc u a) (if Sp.arOf E (oc u f) = 2 then oc u b else Ob.nil) = some val → u.1 29 < 160000 ∨ ExT u val) (hf : 4 ≤ f ∧ f ≤ 16) (ha : VN u a) (hb : Sp.arOf E (oc u f) = 2 → VN u b) (hq : ∀ r v, CG f8M f8R u v → v.1 29 ≤ u.1 29 + 1 → ((r = -1 ∧ v.1 29 ≤ u.1 29 ∧ Ob.base (oc u f) (oc u a) (if Sp.arOf E (oc u f) = 2 then oc u b else Ob.nil) = none) ∨ (VN v r ∧ Ob.base (oc u f) (oc u a) (if Sp.arOf E (oc u f) = 2 then oc u b else Ob.nil) = some (oc v r))) → (∀ val, Ob.base (oc u f) (oc u a) (if Sp.arOf E (oc u f) = 2 then oc u b else Ob.nil) = some val → ExT u val → v.1 29 = u.1 29) → Q r v) : pv_2_baseValue f a b c Q u := by
  have hfv : VN u f := ⟨by omega, by have := hT.1.1.1; omega⟩
  have kf := hT.2.2.2 f.toNat (by omega)
  rw [show ((f.toNat : Nat) : Int) = f by omega] at kf
  have har := arOf_base (E := E) (i := f.toNat) (by omega) (by omega) kf.symm
  obtain ⟨z0, z1⟩ := VN.zero hT
  obtain ⟨t0, t1, t2⟩ := knC hT 1 (o := Ob.t) (by decide) (by decide) rfl
  have kk : ∀ (k : Int) (o : Ob), 0 ≤ k → k < 44 → Ob.knownC[k.toNat]? = some o → (f = k ↔ oc u f = o) := fun k o k0 k4 ho => katC hT k k0 k4 ho hfv.1 hfv.2
  have kn : ∀ (k : Int) (o : Ob), 0 ≤ k → k < 44 → Ob.knownC[k.toNat]? = some o → ¬ f = k → ¬ oc u f = o := fun k o k0 k4 ho hn z => hn ((kk k o k0 k4 ho).mpr z)
  have two : f ≤ 9 → Sp.arOf E (oc u f) = 2 := fun h => by rw [har, if_neg (by omega), if_pos (by omega)]
  have one : 10 ≤ f → Sp.arOf E (oc u f) ≠ 2 := fun h => by rw [har, if_neg (by omega), if_neg (by omega)]; decide
  -- truth values
  have tr : ∀ p : Prop, [Decidable p] → Ob.base (oc u f) (oc u a) (if Sp.arOf E (oc u f) = 2 then oc u b else Ob.nil) = some (Ob.tr (decide p)) → (p → Q 1 u) ∧ (¬ p → Q 0 u) := by
    intro p _ hbs
    refine ⟨fun hp => hq 1 u (CG.rf hT) (by omega) (Or.inr ⟨⟨t0, t1⟩, ?_⟩) (fun _ _ _ => rfl), fun hp => hq 0 u (CG.rf hT) (by omega) (Or.inr ⟨z0, ?_⟩) (fun _ _ _ => rfl)⟩
    · rw [hbs, decide_eq_true hp, t2]; rfl
    · rw [hbs, decide_eq_false hp, z1]; rfl
  have trb : ∀ q : Bool, Ob.base (oc u f) (oc u a) (if Sp.arOf E (oc u f) = 2 then oc u b else Ob.nil) = some (Ob.tr q) → (∀ r, bq r q → br (r = 0) (Q 0 u) (Q 1 u)) := by
    intro q hbs r hr'
    refine ⟨fun z => hq 0 u (CG.rf hT) (by omega) (Or.inr ⟨z0, ?_⟩) (fun _ _ _ => rfl), fun z => hq 1 u (CG.rf hT) (by omega) (Or.inr ⟨⟨t0, t1⟩, ?_⟩) (fun _ _ _ => rfl)⟩
    · rw [hbs, hr'.f z, z1]; rfl
    · rw [hbs, hr'.t z, t2]; rfl
  unfold pv_2_baseValue
  refine ⟨fun c3 => by omega, fun n3 => ⟨fun c4 => ?_, fun n4 => ⟨fun c5 => ?_, fun n5 => ⟨fun c6 => ?_, fun n6 => ⟨fun c7 => ?_, fun n7 => ⟨fun c8 => ?_, fun n8 => ⟨fun c9 => ?_, fun n9 => ⟨fun c10 => ?_, fun n10 => ⟨fun c11 => ?_, fun n11 => ⟨fun c12 => ?_, fun n12 => ⟨fun c13 => ?_, fun n13 => ⟨fun c14 => ?_, fun n14 => ⟨fun c15 => ?_, fun n15 => ?_⟩⟩⟩⟩⟩⟩⟩⟩⟩⟩⟩⟩⟩
  · -- equal
    have hb := hb (two (by omega))
    have inj := hT.1.inj ha.1 ha.2 hb.1 hb.2
    have hbs : Ob.base (oc u f) (oc u a) (if Sp.arOf E (oc u f) = 2 then oc u b else Ob.nil) = some (Ob.tr (decide (oc u a = oc u b))) := by
      rw [if_pos (two (by omega)), (kk 4 Ob.equal (by decide) (by decide) rfl).mp c4]
      exact if_pos rfl
    obtain ⟨p1, p2⟩ := tr (oc u a = oc u b) hbs
    exact ⟨fun z => p2 (fun q => z (inj.mp q)), fun z => p1 (inj.mpr (Decidable.not_not.mp z))⟩
  · -- cons
    have hb := hb (two (by omega))
    have hbs : Ob.base (oc u f) (oc u a) (if Sp.arOf E (oc u f) = 2 then oc u b else Ob.nil) = some (.pr (oc u a) (oc u b)) := by
      rw [if_pos (two (by omega)), (kk 5 Ob.cons (by decide) (by decide) rfl).mp c5]
      unfold Ob.base
      rw [if_neg (show ¬ Ob.cons = Ob.equal from Ob.sym_ne (by decide)), if_pos rfl]
    refine pc_pairE hT ha hb (hr _ hbs) (fun k v g vk ek hk hx => hq k v g hk (Or.inr ⟨vk, ?_⟩) (fun val hv he => hx (by rw [hbs] at hv; rw [Option.some.inj hv]; exact he)))
    rw [hbs, ek]
  · -- implies
    have hb := hb (two (by omega))
    have na := oc_nil hT ha
    have nb := oc_nil hT hb
    have hbs : Ob.base (oc u f) (oc u a) (if Sp.arOf E (oc u f) = 2 then oc u b else Ob.nil) = some (Ob.tr (decide (oc u a = Ob.nil) || decide (oc u b ≠ Ob.nil))) := by
      rw [if_pos (two (by omega)), (kk 6 Ob.implies (by decide) (by decide) rfl).mp c6]
      unfold Ob.base
      rw [if_neg (show ¬ Ob.implies = Ob.equal from Ob.sym_ne (by decide)), if_neg (show ¬ Ob.implies = Ob.cons from Ob.sym_ne (by decide)), if_pos rfl]
    have y1 : (decide (oc u a = Ob.nil) || decide (oc u b ≠ Ob.nil)) = true → Q 1 u := fun e => hq 1 u (CG.rf hT) (by omega) (Or.inr ⟨⟨t0, t1⟩, by rw [hbs, e, t2]; rfl⟩) (fun _ _ _ => rfl)
    refine ⟨fun z => y1 (by rw [decide_eq_true (na.mp z)]; rfl), fun z => ⟨fun z2 => y1 ?_, fun z2 => hq 0 u (CG.rf hT) (by omega) (Or.inr ⟨z0, ?_⟩) (fun _ _ _ => rfl)⟩⟩
    · rw [decide_eq_true (show oc u b ≠ Ob.nil from fun q => z2 (nb.mpr q)), Bool.or_true]
    · rw [hbs, decide_eq_false (fun q => z (na.mpr q)), decide_eq_false (fun q => q (nb.mp (Decidable.not_not.mp z2))), z1]; rfl
  · -- plus
    have hb := hb (two (by omega))
    have hbs : Ob.base (oc u f) (oc u a) (if Sp.arOf E (oc u f) = 2 then oc u b else Ob.nil) = (if 4611686018427387903 < (oc u a).num + (oc u b).num then none else some (.nat ((oc u a).num + (oc u b).num))) := by
      rw [if_pos (two (by omega)), (kk 7 Ob.plus (by decide) (by decide) rfl).mp c7]
      unfold Ob.base
      rw [if_neg (show ¬ Ob.plus = Ob.equal from Ob.sym_ne (by decide)), if_neg (show ¬ Ob.plus = Ob.cons from Ob.sym_ne (by decide)), if_neg (show ¬ Ob.plus = Ob.implies from Ob.sym_ne (by decide)), if_pos rfl]
    have pa := num_pos (oc u a)
    have pb := num_pos (oc u b)
    have la := oc_num hT ha
    have lb := oc_num hT hb
    refine pc_numberOf hT ha (pc_numberOf hT hb ?_)
    intro s es _
    rw [wladd_eq ⟨by omega, by omega⟩] at es
    rw [es]
    refine ⟨fun z => pc_naturalE hT (hr _ (by rw [hbs, if_neg (by omega)])) (by omega) z (fun k v g vk ek hk hx => hq k v g hk (Or.inr ⟨vk, ?_⟩) (fun val hv he => hx (by rw [hbs, if_neg (by omega)] at hv; rw [Option.some.inj hv]; exact he))), fun z => hq (-1) u (CG.rf hT) (by omega) (Or.inl ⟨rfl, Int.le_refl _, ?_⟩) (fun _ _ _ => rfl)⟩
    · rw [hbs, if_neg (by omega), ek]
    · rw [hbs, if_pos (by omega)]
  · -- minus
    have hb := hb (two (by omega))
    have hbs : Ob.base (oc u f) (oc u a) (if Sp.arOf E (oc u f) = 2 then oc u b else Ob.nil) = some (.nat (if (oc u b).num < (oc u a).num then (oc u a).num - (oc u b).num else 0)) := by
      rw [if_pos (two (by omega)), (kk 8 Ob.minus (by decide) (by decide) rfl).mp c8]
      unfold Ob.base
      rw [if_neg (show ¬ Ob.minus = Ob.equal from Ob.sym_ne (by decide)), if_neg (show ¬ Ob.minus = Ob.cons from Ob.sym_ne (by decide)), if_neg (show ¬ Ob.minus = Ob.implies from Ob.sym_ne (by decide)), if_neg (show ¬ Ob.minus = Ob.plus from Ob.sym_ne (by decide)), if_pos rfl]
    have pa := num_pos (oc u a)
    have pb := num_pos (oc u b)
    have la := oc_num hT ha
    have lb := oc_num hT hb
    refine pc_numberOf hT ha (pc_numberOf hT hb ?_)
    intro s es hs
    have es' : s = (oc u a).num - (oc u b).num := by
      rw [es]; exact wlsub_eq' ⟨by omega, by omega⟩
    rw [es']
    unfold pv_2_baseValue_195
    have eq1 : 0 ≤ (oc u a).num - (oc u b).num → (if (oc u b).num < (oc u a).num then (oc u a).num - (oc u b).num else 0) = (oc u a).num - (oc u b).num := fun z => by
      by_cases q : (oc u b).num < (oc u a).num
      · rw [if_pos q]
      · rw [if_neg q]; omega
    have eq0 : ¬ 0 ≤ (oc u a).num - (oc u b).num → (if (oc u b).num < (oc u a).num then (oc u a).num - (oc u b).num else 0) = 0 := fun z => if_neg (by omega)
    refine ⟨fun z => pc_naturalE hT (hr _ (by rw [hbs, eq1 z])) z (by omega) (fun k v g vk ek hk hx => hq k v g hk (Or.inr ⟨vk, ?_⟩) (fun val hv he => hx (by rw [hbs, eq1 z] at hv; rw [Option.some.inj hv]; exact he))), fun z => pc_naturalE hT (hr _ (by rw [hbs, eq0 z])) (Int.le_refl _) (by decide) (fun k v g vk ek hk hx => hq k v g hk (Or.inr ⟨vk, ?_⟩) (fun val hv he => hx (by rw [hbs, eq0 z] at hv; rw [Option.some.inj hv]; exact he)))⟩
    · rw [hbs, ek]
      by_cases q : (oc u b).num < (oc u a).num
      · rw [if_pos q]
      · rw [if_neg q, show (oc u a).num - (oc u b).num = 0 by omega]
    · rw [hbs, ek, if_neg (by omega)]
  · -- less
    have hb := hb (two (by omega))
    have hbs : Ob.base (oc u f) (oc u a) (if Sp.arOf E (oc u f) = 2 then oc u b else Ob.nil) = some (Ob.tr (decide ((oc u a).num < (oc u b).num))) := by
      rw [if_pos (two (by omega)), (kk 9 Ob.less (by decide) (by decide) rfl).mp c9]
      unfold Ob.base
      rw [if_neg (show ¬ Ob.less = Ob.equal from Ob.sym_ne (by decide)), if_neg (show ¬ Ob.less = Ob.cons from Ob.sym_ne (by decide)), if_neg (show ¬ Ob.less = Ob.implies from Ob.sym_ne (by decide)), if_neg (show ¬ Ob.less = Ob.plus from Ob.sym_ne (by decide)), if_neg (show ¬ Ob.less = Ob.minus from Ob.sym_ne (by decide)), if_pos rfl]
    obtain ⟨p1, p2⟩ := tr ((oc u a).num < (oc u b).num) hbs
    refine pc_numberOf hT ha (pc_numberOf hT hb ⟨fun z => p2 (by omega), fun z => p1 (by omega)⟩)
  · -- consp
    have hbs : Ob.base (oc u f) (oc u a) (if Sp.arOf E (oc u f) = 2 then oc u b else Ob.nil) = some (Ob.tr (oc u a).isPr) := by
      rw [(kk 10 Ob.consp (by decide) (by decide) rfl).mp c10]
      unfold Ob.base
      rw [if_neg (show ¬ Ob.consp = Ob.equal from Ob.sym_ne (by decide)), if_neg (show ¬ Ob.consp = Ob.cons from Ob.sym_ne (by decide)), if_neg (show ¬ Ob.consp = Ob.implies from Ob.sym_ne (by decide)), if_neg (show ¬ Ob.consp = Ob.plus from Ob.sym_ne (by decide)), if_neg (show ¬ Ob.consp = Ob.minus from Ob.sym_ne (by decide)), if_neg (show ¬ Ob.consp = Ob.less from Ob.sym_ne (by decide)), if_pos rfl]
    exact pc_isPair hT ha (fun r hr' => trb _ hbs r hr')
  · -- car
    have hbs : Ob.base (oc u f) (oc u a) (if Sp.arOf E (oc u f) = 2 then oc u b else Ob.nil) = some (oc u a).lft := by
      rw [(kk 11 Ob.car (by decide) (by decide) rfl).mp c11]
      unfold Ob.base
      rw [if_neg (show ¬ Ob.car = Ob.equal from Ob.sym_ne (by decide)), if_neg (show ¬ Ob.car = Ob.cons from Ob.sym_ne (by decide)), if_neg (show ¬ Ob.car = Ob.implies from Ob.sym_ne (by decide)), if_neg (show ¬ Ob.car = Ob.plus from Ob.sym_ne (by decide)), if_neg (show ¬ Ob.car = Ob.minus from Ob.sym_ne (by decide)), if_neg (show ¬ Ob.car = Ob.less from Ob.sym_ne (by decide)), if_neg (show ¬ Ob.car = Ob.consp from Ob.sym_ne (by decide)), if_pos rfl]
    exact pc_left hT ha (fun r hr' er => hq r u (CG.rf hT) (by omega) (Or.inr ⟨hr', by rw [hbs, er]⟩) (fun _ _ _ => rfl))
  · -- cdr
    have hbs : Ob.base (oc u f) (oc u a) (if Sp.arOf E (oc u f) = 2 then oc u b else Ob.nil) = some (oc u a).rgt := by
      rw [(kk 12 Ob.cdr (by decide) (by decide) rfl).mp c12]
      unfold Ob.base
      rw [if_neg (show ¬ Ob.cdr = Ob.equal from Ob.sym_ne (by decide)), if_neg (show ¬ Ob.cdr = Ob.cons from Ob.sym_ne (by decide)), if_neg (show ¬ Ob.cdr = Ob.implies from Ob.sym_ne (by decide)), if_neg (show ¬ Ob.cdr = Ob.plus from Ob.sym_ne (by decide)), if_neg (show ¬ Ob.cdr = Ob.minus from Ob.sym_ne (by decide)), if_neg (show ¬ Ob.cdr = Ob.less from Ob.sym_ne (by decide)), if_neg (show ¬ Ob.cdr = Ob.consp from Ob.sym_ne (by decide)), if_neg (show ¬ Ob.cdr = Ob.car from Ob.sym_ne (by decide)), if_pos rfl]
    exact pc_right hT ha (fun r hr' er => hq r u (CG.rf hT) (by omega) (Or.inr ⟨hr', by rw [hbs, er]⟩) (fun _ _ _ => rfl))
  · -- natp
    have hbs : Ob.base (oc u f) (oc u a) (if Sp.arOf E (oc u f) = 2 then oc u b else Ob.nil) = some (Ob.tr (oc u a).isNat) := by
      rw [(kk 13 Ob.natp (by decide) (by decide) rfl).mp c13]
      unfold Ob.base
      rw [if_neg (show ¬ Ob.natp = Ob.equal from Ob.sym_ne (by decide)), if_neg (show ¬ Ob.natp = Ob.cons from Ob.sym_ne (by decide)), if_neg (show ¬ Ob.natp = Ob.implies from Ob.sym_ne (by decide)), if_neg (show ¬ Ob.natp = Ob.plus from Ob.sym_ne (by decide)), if_neg (show ¬ Ob.natp = Ob.minus from Ob.sym_ne (by decide)), if_neg (show ¬ Ob.natp = Ob.less from Ob.sym_ne (by decide)), if_neg (show ¬ Ob.natp = Ob.consp from Ob.sym_ne (by decide)), if_neg (show ¬ Ob.natp = Ob.car from Ob.sym_ne (by decide)), if_neg (show ¬ Ob.natp = Ob.cdr from Ob.sym_ne (by decide)), if_pos rfl]
    exact pc_isNatural hT ha (fun r hr' => trb _ hbs r hr')
  · -- symbolp
    have hbs : Ob.base (oc u f) (oc u a) (if Sp.arOf E (oc u f) = 2 then oc u b else Ob.nil) = some (Ob.tr (oc u a).isSym) := by
      rw [(kk 14 Ob.symbolp (by decide) (by decide) rfl).mp c14]
      unfold Ob.base
      rw [if_neg (show ¬ Ob.symbolp = Ob.equal from Ob.sym_ne (by decide)), if_neg (show ¬ Ob.symbolp = Ob.cons from Ob.sym_ne (by decide)), if_neg (show ¬ Ob.symbolp = Ob.implies from Ob.sym_ne (by decide)), if_neg (show ¬ Ob.symbolp = Ob.plus from Ob.sym_ne (by decide)), if_neg (show ¬ Ob.symbolp = Ob.minus from Ob.sym_ne (by decide)), if_neg (show ¬ Ob.symbolp = Ob.less from Ob.sym_ne (by decide)), if_neg (show ¬ Ob.symbolp = Ob.consp from Ob.sym_ne (by decide)), if_neg (show ¬ Ob.symbolp = Ob.car from Ob.sym_ne (by decide)), if_neg (show ¬ Ob.symbolp = Ob.cdr from Ob.sym_ne (by decide)), if_neg (show ¬ Ob.symbolp = Ob.natp from Ob.sym_ne (by decide)), if_pos rfl]
    exact pc_isSymbol hT ha (fun r hr' => trb _ hbs r hr')
  · -- height
    have hbs : Ob.base (oc u f) (oc u a) (if Sp.arOf E (oc u f) = 2 then oc u b else Ob.nil) = some (.nat (oc u a).hgt) := by
      rw [(kk 15 Ob.height (by decide) (by decide) rfl).mp c15]
      unfold Ob.base
      rw [if_neg (show ¬ Ob.height = Ob.equal from Ob.sym_ne (by decide)), if_neg (show ¬ Ob.height = Ob.cons from Ob.sym_ne (by decide)), if_neg (show ¬ Ob.height = Ob.implies from Ob.sym_ne (by decide)), if_neg (show ¬ Ob.height = Ob.plus from Ob.sym_ne (by decide)), if_neg (show ¬ Ob.height = Ob.minus from Ob.sym_ne (by decide)), if_neg (show ¬ Ob.height = Ob.less from Ob.sym_ne (by decide)), if_neg (show ¬ Ob.height = Ob.consp from Ob.sym_ne (by decide)), if_neg (show ¬ Ob.height = Ob.car from Ob.sym_ne (by decide)), if_neg (show ¬ Ob.height = Ob.cdr from Ob.sym_ne (by decide)), if_neg (show ¬ Ob.height = Ob.natp from Ob.sym_ne (by decide)), if_neg (show ¬ Ob.height = Ob.symbolp from Ob.sym_ne (by decide)), if_pos rfl]
    have h1 := hgt_pos (oc u a)
    have h2 := hgt_le hT _ a (Nat.lt_succ_self _) ha
    have h3 := ha.2
    have h4 := hT.1.1.2
    exact pc_heightOf hT ha (pc_naturalE hT (hr _ hbs) h1 (by omega) (fun k v g vk ek hk hx => hq k v g hk (Or.inr ⟨vk, by rw [hbs, ek]⟩) (fun val hv he => hx (by rw [hbs] at hv; rw [Option.some.inj hv]; exact he))))
  · -- not
    have c16 : f = 16 := by omega
    have hbs : Ob.base (oc u f) (oc u a) (if Sp.arOf E (oc u f) = 2 then oc u b else Ob.nil) = some (Ob.tr (decide (oc u a = Ob.nil))) := by
      rw [(kk 16 Ob.not (by decide) (by decide) rfl).mp c16]
      unfold Ob.base
      rw [if_neg (show ¬ Ob.not = Ob.equal from Ob.sym_ne (by decide)), if_neg (show ¬ Ob.not = Ob.cons from Ob.sym_ne (by decide)), if_neg (show ¬ Ob.not = Ob.implies from Ob.sym_ne (by decide)), if_neg (show ¬ Ob.not = Ob.plus from Ob.sym_ne (by decide)), if_neg (show ¬ Ob.not = Ob.minus from Ob.sym_ne (by decide)), if_neg (show ¬ Ob.not = Ob.less from Ob.sym_ne (by decide)), if_neg (show ¬ Ob.not = Ob.consp from Ob.sym_ne (by decide)), if_neg (show ¬ Ob.not = Ob.car from Ob.sym_ne (by decide)), if_neg (show ¬ Ob.not = Ob.cdr from Ob.sym_ne (by decide)), if_neg (show ¬ Ob.not = Ob.natp from Ob.sym_ne (by decide)), if_neg (show ¬ Ob.not = Ob.symbolp from Ob.sym_ne (by decide)), if_neg (show ¬ Ob.not = Ob.height from Ob.sym_ne (by decide))]
    obtain ⟨p1, p2⟩ := tr (oc u a = Ob.nil) hbs
    have na := oc_nil hT ha
    exact ⟨fun z => p2 (fun q => z (na.mpr q)), fun z => p1 (na.mp (Decidable.not_not.mp z))⟩

