-- deps: 4305
/-! plain calls, each by its name -/
/-- what a call of < falls to -/
def Sp.fal [DecidableEq Ob] (a b : Ob) : Option (Sp.M Ob) :=
  if Ob.isCallOf a Ob.height && Ob.isCallOf b Ob.height && (Ob.isCallOf (Ob.item a 1) Ob.car || Ob.isCallOf (Ob.item a 1) Ob.cdr) && Ob.item (Ob.item a 1) 1 = Ob.item b 1 then some (Sp.mk1 Ob.consp (Ob.item b 1))
  else if Ob.isCallOf a Ob.minus && Ob.item a 1 = b && Ob.isNat (Ob.item a 2) && decide (0 < Ob.num (Ob.item a 2)) then some (Sp.bd (Sp.pay 1) fun _ => Sp.mk2 Ob.less (.nat 0) b)
  else none
theorem plain_equal [DecidableEq Ob] {u : Ob} (h : Ob.lft u = Ob.equal) : Sp.plain u = if Ob.item u 1 = Ob.item u 2 then some (.inl Ob.t) else if Ob.isCallOf (Ob.item u 1) Ob.cons && Ob.isCallOf (Ob.item u 2) Ob.cons then some (.inr (Sp.bd (Sp.mk2 Ob.equal (Ob.item (Ob.item u 1) 1) (Ob.item (Ob.item u 2) 1)) fun x => Sp.bd (Sp.mk2 Ob.equal (Ob.item (Ob.item u 1) 2) (Ob.item (Ob.item u 2) 2)) fun y => Sp.mk3 Ob.ifS x y Ob.nil)) else if Ob.isCallOf (Ob.item u 1) Ob.cons && Ob.isConst (Ob.item u 2) && !Ob.isPr (Ob.valOf (Ob.item u 2)) then some (.inl Ob.nil) else if Ob.isCallOf (Ob.item u 2) Ob.cons && Ob.isConst (Ob.item u 1) && !Ob.isPr (Ob.valOf (Ob.item u 1)) then some (.inl Ob.nil) else none := by
  unfold Sp.plain
  rw [h, if_pos rfl]
theorem plain_less [DecidableEq Ob] {u : Ob} (h : Ob.lft u = Ob.less) : Sp.plain u = if Ob.item u 1 = Ob.item u 2 ∨ Ob.item u 2 = Ob.nat 0 then some (.inl Ob.nil) else (Sp.fal (Ob.item u 1) (Ob.item u 2)).map .inr := by
  unfold Sp.plain
  rw [h, if_neg (show Ob.less ≠ Ob.equal from Ob.sym_ne (by decide)), if_pos rfl]
  unfold Sp.fal
  split
  · rfl
  · split
    · rfl
    · split <;> rfl
theorem plain_car [DecidableEq Ob] {u : Ob} (h : Ob.lft u = Ob.car) : Sp.plain u = if Ob.isCallOf (Ob.item u 1) Ob.cons then some (.inl (Ob.item (Ob.item u 1) 1)) else none := by
  unfold Sp.plain
  rw [h, if_neg (show Ob.car ≠ Ob.equal from Ob.sym_ne (by decide)), if_neg (show Ob.car ≠ Ob.less from Ob.sym_ne (by decide)), if_pos rfl]
theorem plain_cdr [DecidableEq Ob] {u : Ob} (h : Ob.lft u = Ob.cdr) : Sp.plain u = if Ob.isCallOf (Ob.item u 1) Ob.cons then some (.inl (Ob.item (Ob.item u 1) 2)) else none := by
  unfold Sp.plain
  rw [h, if_neg (show Ob.cdr ≠ Ob.equal from Ob.sym_ne (by decide)), if_neg (show Ob.cdr ≠ Ob.less from Ob.sym_ne (by decide)), if_neg (show Ob.cdr ≠ Ob.car from Ob.sym_ne (by decide)), if_pos rfl]
theorem plain_consp [DecidableEq Ob] {u : Ob} (h : Ob.lft u = Ob.consp) : Sp.plain u = if Ob.isCallOf (Ob.item u 1) Ob.cons then some (.inl Ob.t) else if Sp.isNumd (Ob.item u 1) then some (.inl Ob.nil) else none := by
  unfold Sp.plain
  rw [h, if_neg (show Ob.consp ≠ Ob.equal from Ob.sym_ne (by decide)), if_neg (show Ob.consp ≠ Ob.less from Ob.sym_ne (by decide)), if_neg (show Ob.consp ≠ Ob.car from Ob.sym_ne (by decide)), if_neg (show Ob.consp ≠ Ob.cdr from Ob.sym_ne (by decide)), if_pos rfl]
theorem plain_natp [DecidableEq Ob] {u : Ob} (h : Ob.lft u = Ob.natp) : Sp.plain u = if Ob.isCallOf (Ob.item u 1) Ob.cons then some (.inl Ob.nil) else if Sp.isNumd (Ob.item u 1) then some (.inl Ob.t) else none := by
  unfold Sp.plain
  rw [h, if_neg (show Ob.natp ≠ Ob.equal from Ob.sym_ne (by decide)), if_neg (show Ob.natp ≠ Ob.less from Ob.sym_ne (by decide)), if_neg (show Ob.natp ≠ Ob.car from Ob.sym_ne (by decide)), if_neg (show Ob.natp ≠ Ob.cdr from Ob.sym_ne (by decide)), if_neg (show Ob.natp ≠ Ob.consp from Ob.sym_ne (by decide)), if_pos rfl]
theorem plain_symbolp [DecidableEq Ob] {u : Ob} (h : Ob.lft u = Ob.symbolp) : Sp.plain u = if Ob.isCallOf (Ob.item u 1) Ob.cons || Sp.isNumd (Ob.item u 1) then some (.inl Ob.nil) else none := by
  unfold Sp.plain
  rw [h, if_neg (show Ob.symbolp ≠ Ob.equal from Ob.sym_ne (by decide)), if_neg (show Ob.symbolp ≠ Ob.less from Ob.sym_ne (by decide)), if_neg (show Ob.symbolp ≠ Ob.car from Ob.sym_ne (by decide)), if_neg (show Ob.symbolp ≠ Ob.cdr from Ob.sym_ne (by decide)), if_neg (show Ob.symbolp ≠ Ob.consp from Ob.sym_ne (by decide)), if_neg (show Ob.symbolp ≠ Ob.natp from Ob.sym_ne (by decide)), if_pos rfl]
theorem plain_no [DecidableEq Ob] {u : Ob} (h : Ob.lft u ≠ Ob.equal ∧ Ob.lft u ≠ Ob.less ∧ Ob.lft u ≠ Ob.car ∧ Ob.lft u ≠ Ob.cdr ∧ Ob.lft u ≠ Ob.consp ∧ Ob.lft u ≠ Ob.natp ∧ Ob.lft u ≠ Ob.symbolp) : Sp.plain u = none := by
  unfold Sp.plain
  obtain ⟨h1, h2, h3, h4, h5, h6, h7⟩ := h
  rw [if_neg h1, if_neg h2, if_neg h3, if_neg h4, if_neg h5, if_neg h6, if_neg h7]
