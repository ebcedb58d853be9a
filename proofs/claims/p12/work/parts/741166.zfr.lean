-- deps: 7999865
/-! the replay, the class: within a frame -/
theorem f8b_Z [DecidableEq Ob] {B : Sz.Bx} : ∀ k, f8Zz B k = false → f8b k = false := fun k h => f8b_J k (f8Jn_Z k h)
theorem f8En_Z [DecidableEq Ob] {B : Sz.Bx} : ∀ k, f8Zz B k = false → f8En k = false := fun k h => f8En_J k (f8Jn_Z k h)
theorem PdK_z.setA [DecidableEq Ob] {α : Type} {δ : Nat} {B : Sz.Bx} {j y : Int} {u v w : iST} {R : EStateM.Result Unit Sz.Wk α} {m : Sz.M α} (h : PdK_z B δ (f8Zz B) f8Jr u v R m) (ew : w = iA v 51 j y) : PdK_z B δ (f8Zz B) f8Jr u w R m := by
  have g : CG (f8Zz B) f8Jr v w := by rw [ew]; exact CG_A h.1.1 (by omega) (by decide)
  have e : w.1 = v.1 := by rw [ew]; rfl
  exact h.on g (fun _ q => q) (fun _ q => q) (by rw [e]) (by rw [e]) (by rw [e]) (by rw [e]) (by rw [e]) (by rw [e]) (by rw [ew]; rfl)
theorem PdK_z.frame [DecidableEq Ob] {α : Type} {δ : Nat} {B : Sz.Bx} {n' r' : Nat → Bool} {u v w : iST} {R : EStateM.Result Unit Sz.Wk α} {m : Sz.M α} (h : PdK_z B δ (f8Zz B) f8Jr u v R m) (g : CG n' r' v w) (hn : ∀ k, f8Zz B k = false → n' k = false) (hr : ∀ k, f8Jr k = false → r' k = false) (hm : (n' 29 = false ∧ n' 30 = false ∧ n' 31 = false ∧ n' 32 = false ∧ n' 26 = false ∧ n' 28 = false) ∧ r' 52 = false) : PdK_z B δ (f8Zz B) f8Jr u w R m :=
  h.on g hn hr (g.2.2.1 29 hm.1.1) (g.2.2.1 30 hm.1.2.1) (g.2.2.1 31 hm.1.2.2.1) (g.2.2.1 32 hm.1.2.2.2.1) (g.2.2.1 26 hm.1.2.2.2.2.1) (g.2.2.1 28 hm.1.2.2.2.2.2) (g.2.2.2 52 hm.2)
theorem ztick_ok [DecidableEq Ob] {s : Sz.Wk} (h : s.1 ≠ 0) : Sz.tick s = .ok () (s.1 - 1, s.2) := by
  unfold Sz.tick
  rw [if_neg h]
theorem ztick_err [DecidableEq Ob] {s : Sz.Wk} (h : s.1 = 0) : Sz.tick s = .error () s := by
  unfold Sz.tick
  rw [if_pos h]
theorem row_add [DecidableEq Ob] {w : iST} {E : Sp.Env} {row : Int} {ctx : List Ob} (cx : CxC w E row ctx) (a : Ob) : Sz.row (ctx ++ [a]) = .pr a (oc w row) := by
  unfold Sz.row
  rw [List.reverse_append, cx.2.1]
  rfl
theorem bd_ite_z [DecidableEq Ob] {α β : Type} {c : Prop} [Decidable c] (m n : Sz.M α) (f : α → Sz.M β) : Sp.bd (if c then m else n) f = if c then Sp.bd m f else Sp.bd n f := by split <;> rfl
def Sz.fal [DecidableEq Ob] (a b : Ob) : Option (Sz.M Ob) :=
  if Ob.isCallOf a Ob.height && Ob.isCallOf b Ob.height && (Ob.isCallOf (Ob.item a 1) Ob.car || Ob.isCallOf (Ob.item a 1) Ob.cdr) && Ob.item (Ob.item a 1) 1 = Ob.item b 1 then some (Sz.mk1 Ob.consp (Ob.item b 1))
  else if Ob.isCallOf a Ob.minus && Ob.item a 1 = b && Ob.isNat (Ob.item a 2) && decide (0 < Ob.num (Ob.item a 2)) then some (Sp.bd (Sz.pay (.nat 0) 1) fun _ => Sz.mk2 Ob.less (.nat 0) b)
  else none
theorem plain_equal_z [DecidableEq Ob] {u : Ob} (h : Ob.lft u = Ob.equal) : Sz.plain u = if Ob.item u 1 = Ob.item u 2 then some (.inl Ob.t) else if Ob.isCallOf (Ob.item u 1) Ob.cons && Ob.isCallOf (Ob.item u 2) Ob.cons then some (.inr (Sp.bd (Sz.mk2 Ob.equal (Ob.item (Ob.item u 1) 1) (Ob.item (Ob.item u 2) 1)) fun x => Sp.bd (Sz.mk2 Ob.equal (Ob.item (Ob.item u 1) 2) (Ob.item (Ob.item u 2) 2)) fun y => Sz.mk3 Ob.ifS x y Ob.nil)) else if Ob.isCallOf (Ob.item u 1) Ob.cons && Ob.isConst (Ob.item u 2) && !Ob.isPr (Ob.valOf (Ob.item u 2)) then some (.inl Ob.nil) else if Ob.isCallOf (Ob.item u 2) Ob.cons && Ob.isConst (Ob.item u 1) && !Ob.isPr (Ob.valOf (Ob.item u 1)) then some (.inl Ob.nil) else none := by
  unfold Sz.plain
  rw [h, if_pos rfl]
theorem plain_less_z [DecidableEq Ob] {u : Ob} (h : Ob.lft u = Ob.less) : Sz.plain u = if Ob.item u 1 = Ob.item u 2 ∨ Ob.item u 2 = Ob.nat 0 then some (.inl Ob.nil) else (Sz.fal (Ob.item u 1) (Ob.item u 2)).map .inr := by
  unfold Sz.plain
  rw [h, if_neg (show Ob.less ≠ Ob.equal from Ob.sym_ne (by decide)), if_pos rfl]
  unfold Sz.fal
  split
  · rfl
  · split
    · rfl
    · split <;> rfl
theorem plain_car_z [DecidableEq Ob] {u : Ob} (h : Ob.lft u = Ob.car) : Sz.plain u = if Ob.isCallOf (Ob.item u 1) Ob.cons then some (.inl (Ob.item (Ob.item u 1) 1)) else none := by
  unfold Sz.plain
  rw [h, if_neg (show Ob.car ≠ Ob.equal from Ob.sym_ne (by decide)), if_neg (show Ob.car ≠ Ob.less from Ob.sym_ne (by decide)), if_pos rfl]
theorem plain_cdr_z [DecidableEq Ob] {u : Ob} (h : Ob.lft u = Ob.cdr) : Sz.plain u = if Ob.isCallOf (Ob.item u 1) Ob.cons then some (.inl (Ob.item (Ob.item u 1) 2)) else none := by
  unfold Sz.plain
  rw [h, if_neg (show Ob.cdr ≠ Ob.equal from Ob.sym_ne (by decide)), if_neg (show Ob.cdr ≠ Ob.less from Ob.sym_ne (by decide)), if_neg (show Ob.cdr ≠ Ob.car from Ob.sym_ne (by decide)), if_pos rfl]
theorem plain_consp_z [DecidableEq Ob] {u : Ob} (h : Ob.lft u = Ob.consp) : Sz.plain u = if Ob.isCallOf (Ob.item u 1) Ob.cons then some (.inl Ob.t) else if Sp.isNumd (Ob.item u 1) then some (.inl Ob.nil) else none := by
  unfold Sz.plain
  rw [h, if_neg (show Ob.consp ≠ Ob.equal from Ob.sym_ne (by decide)), if_neg (show Ob.consp ≠ Ob.less from Ob.sym_ne (by decide)), if_neg (show Ob.consp ≠ Ob.car from Ob.sym_ne (by decide)), if_neg (show Ob.consp ≠ Ob.cdr from Ob.sym_ne (by decide)), if_pos rfl]
theorem plain_natp_z [DecidableEq Ob] {u : Ob} (h : Ob.lft u = Ob.natp) : Sz.plain u = if Ob.isCallOf (Ob.item u 1) Ob.cons then some (.inl Ob.nil) else if Sp.isNumd (Ob.item u 1) then some (.inl Ob.t) else none := by
  unfold Sz.plain
  rw [h, if_neg (show Ob.natp ≠ Ob.equal from Ob.sym_ne (by decide)), if_neg (show Ob.natp ≠ Ob.less from Ob.sym_ne (by decide)), if_neg (show Ob.natp ≠ Ob.car from Ob.sym_ne (by decide)), if_neg (show Ob.natp ≠ Ob.cdr from Ob.sym_ne (by decide)), if_neg (show Ob.natp ≠ Ob.consp from Ob.sym_ne (by decide)), if_pos rfl]
theorem plain_symbolp_z [DecidableEq Ob] {u : Ob} (h : Ob.lft u = Ob.symbolp) : Sz.plain u = if Ob.isCallOf (Ob.item u 1) Ob.cons || Sp.isNumd (Ob.item u 1) then some (.inl Ob.nil) else none := by
  unfold Sz.plain
  rw [h, if_neg (show Ob.symbolp ≠ Ob.equal from Ob.sym_ne (by decide)), if_neg (show Ob.symbolp ≠ Ob.less from Ob.sym_ne (by decide)), if_neg (show Ob.symbolp ≠ Ob.car from Ob.sym_ne (by decide)), if_neg (show Ob.symbolp ≠ Ob.cdr from Ob.sym_ne (by decide)), if_neg (show Ob.symbolp ≠ Ob.consp from Ob.sym_ne (by decide)), if_neg (show Ob.symbolp ≠ Ob.natp from Ob.sym_ne (by decide)), if_pos rfl]
theorem plain_no_z [DecidableEq Ob] {u : Ob} (h : Ob.lft u ≠ Ob.equal ∧ Ob.lft u ≠ Ob.less ∧ Ob.lft u ≠ Ob.car ∧ Ob.lft u ≠ Ob.cdr ∧ Ob.lft u ≠ Ob.consp ∧ Ob.lft u ≠ Ob.natp ∧ Ob.lft u ≠ Ob.symbolp) : Sz.plain u = none := by
  unfold Sz.plain
  obtain ⟨h1, h2, h3, h4, h5, h6, h7⟩ := h
  rw [if_neg h1, if_neg h2, if_neg h3, if_neg h4, if_neg h5, if_neg h6, if_neg h7]
/-- one rule: what the specification does with it -/
def Sz.ruleGoes [DecidableEq Ob] (E : Sp.Env) (r : Ob → Bool → Sz.M Ob) (u : Ob) (truth : Bool) (ks : List Sp.Thm) (Rl : Sp.Rul) (l : List (Ob × Ob)) : Sz.M Ob :=
  Sp.bd (if Rl.perm then Sp.bd (Sz.fill (Ob.lkD l) Rl.rhs) fun x => Sz.ret (Ob.smaller x u) else Sz.ret true) fun g =>
        if g then Sp.bd (Sz.rwHyps (fun h => r h true) (Ob.lkD l) Rl.hyps) fun b =>
          if b then Sp.bd (Sz.fill (Ob.lkD l) Rl.rhs) fun x => r x truth else Sz.rwRules E r u truth ks
        else Sz.rwRules E r u truth ks
theorem rr_skip_z [DecidableEq Ob] {E : Sp.Env} {r : Ob → Bool → Sz.M Ob} {u : Ob} {truth : Bool} {k : Sp.Thm} {ks : List Sp.Thm} (h : Sp.can E k truth = none ∨ ∃ Rl, Sp.can E k truth = some Rl ∧ Ob.mt Rl.lhs u = none) : Sz.rwRules E r u truth (k :: ks) = Sz.rwRules E r u truth ks := by
  rw [Sz.rwRules.eq_2]
  rcases h with h | ⟨Rl, h, g⟩
  · rw [h]
  · rw [h]
    show (match Ob.mt Rl.lhs u with | none => _ | some l => _) = _
    rw [g]
theorem rr_go_z [DecidableEq Ob] {E : Sp.Env} {r : Ob → Bool → Sz.M Ob} {u : Ob} {truth : Bool} {k : Sp.Thm} {ks : List Sp.Thm} {Rl : Sp.Rul} {l : List (Ob × Ob)} (h : Sp.can E k truth = some Rl) (g : Ob.mt Rl.lhs u = some l) : Sz.rwRules E r u truth (k :: ks) = Sp.bd Sz.tick (fun _ => Sz.ruleGoes E r u truth ks Rl l) := by
  rw [Sz.rwRules.eq_2, h]
  show (match Ob.mt Rl.lhs u with | none => _ | some l => _) = _
  rw [g]
  rfl
theorem ruleGoes_mono [DecidableEq Ob] {E : Sp.Env} {r : Ob → Bool → Sz.M Ob} (hr : ∀ o t, Mono_z (r o t)) {u : Ob} {t : Bool} {ks : List Sp.Thm} {Rl : Sp.Rul} {l : List (Ob × Ob)} : Mono_z (Sz.ruleGoes E r u t ks Rl l) := by
  unfold Sz.ruleGoes
  exact Mono_z.bd (Mono_z.ite (Mono_z.bd Mono_z.fill (fun x => Mono_z.ret)) Mono_z.ret) (fun g => Mono_z.ite (Mono_z.bd (rwHyps_mono_z (fun o => hr o true) _) (fun b => Mono_z.ite (Mono_z.bd Mono_z.fill (fun x => hr x t)) (rwRules_mono_z hr _))) (rwRules_mono_z hr _))
