-- deps: 4302
/-! the base functions, each by its name -/
theorem base_equal [DecidableEq Ob] (a b : Ob) : Ob.base Ob.equal a b = some (Ob.tr (decide (a = b))) := by
  unfold Ob.base
  rw [if_pos rfl]
theorem base_cons [DecidableEq Ob] (a b : Ob) : Ob.base Ob.cons a b = some (.pr a b) := by
  unfold Ob.base
  rw [if_neg (show Ob.cons ≠ Ob.equal from Ob.sym_ne (by decide)), if_pos rfl]
theorem base_implies [DecidableEq Ob] (a b : Ob) : Ob.base Ob.implies a b = some (Ob.tr (decide (a = Ob.nil) || decide (b ≠ Ob.nil))) := by
  unfold Ob.base
  rw [if_neg (show Ob.implies ≠ Ob.equal from Ob.sym_ne (by decide)), if_neg (show Ob.implies ≠ Ob.cons from Ob.sym_ne (by decide)), if_pos rfl]
theorem base_plus [DecidableEq Ob] (a b : Ob) : Ob.base Ob.plus a b = if 4611686018427387903 < Ob.num a + Ob.num b then none else some (.nat (Ob.num a + Ob.num b)) := by
  unfold Ob.base
  rw [if_neg (show Ob.plus ≠ Ob.equal from Ob.sym_ne (by decide)), if_neg (show Ob.plus ≠ Ob.cons from Ob.sym_ne (by decide)), if_neg (show Ob.plus ≠ Ob.implies from Ob.sym_ne (by decide)), if_pos rfl]
theorem base_minus [DecidableEq Ob] (a b : Ob) : Ob.base Ob.minus a b = some (.nat (if Ob.num b < Ob.num a then Ob.num a - Ob.num b else 0)) := by
  unfold Ob.base
  rw [if_neg (show Ob.minus ≠ Ob.equal from Ob.sym_ne (by decide)), if_neg (show Ob.minus ≠ Ob.cons from Ob.sym_ne (by decide)), if_neg (show Ob.minus ≠ Ob.implies from Ob.sym_ne (by decide)), if_neg (show Ob.minus ≠ Ob.plus from Ob.sym_ne (by decide)), if_pos rfl]
theorem base_less [DecidableEq Ob] (a b : Ob) : Ob.base Ob.less a b = some (Ob.tr (decide (Ob.num a < Ob.num b))) := by
  unfold Ob.base
  rw [if_neg (show Ob.less ≠ Ob.equal from Ob.sym_ne (by decide)), if_neg (show Ob.less ≠ Ob.cons from Ob.sym_ne (by decide)), if_neg (show Ob.less ≠ Ob.implies from Ob.sym_ne (by decide)), if_neg (show Ob.less ≠ Ob.plus from Ob.sym_ne (by decide)), if_neg (show Ob.less ≠ Ob.minus from Ob.sym_ne (by decide)), if_pos rfl]
theorem base_consp [DecidableEq Ob] (a b : Ob) : Ob.base Ob.consp a b = some (Ob.tr (Ob.isPr a)) := by
  unfold Ob.base
  rw [if_neg (show Ob.consp ≠ Ob.equal from Ob.sym_ne (by decide)), if_neg (show Ob.consp ≠ Ob.cons from Ob.sym_ne (by decide)), if_neg (show Ob.consp ≠ Ob.implies from Ob.sym_ne (by decide)), if_neg (show Ob.consp ≠ Ob.plus from Ob.sym_ne (by decide)), if_neg (show Ob.consp ≠ Ob.minus from Ob.sym_ne (by decide)), if_neg (show Ob.consp ≠ Ob.less from Ob.sym_ne (by decide)), if_pos rfl]
theorem base_car [DecidableEq Ob] (a b : Ob) : Ob.base Ob.car a b = some (Ob.lft a) := by
  unfold Ob.base
  rw [if_neg (show Ob.car ≠ Ob.equal from Ob.sym_ne (by decide)), if_neg (show Ob.car ≠ Ob.cons from Ob.sym_ne (by decide)), if_neg (show Ob.car ≠ Ob.implies from Ob.sym_ne (by decide)), if_neg (show Ob.car ≠ Ob.plus from Ob.sym_ne (by decide)), if_neg (show Ob.car ≠ Ob.minus from Ob.sym_ne (by decide)), if_neg (show Ob.car ≠ Ob.less from Ob.sym_ne (by decide)), if_neg (show Ob.car ≠ Ob.consp from Ob.sym_ne (by decide)), if_pos rfl]
theorem base_cdr [DecidableEq Ob] (a b : Ob) : Ob.base Ob.cdr a b = some (Ob.rgt a) := by
  unfold Ob.base
  rw [if_neg (show Ob.cdr ≠ Ob.equal from Ob.sym_ne (by decide)), if_neg (show Ob.cdr ≠ Ob.cons from Ob.sym_ne (by decide)), if_neg (show Ob.cdr ≠ Ob.implies from Ob.sym_ne (by decide)), if_neg (show Ob.cdr ≠ Ob.plus from Ob.sym_ne (by decide)), if_neg (show Ob.cdr ≠ Ob.minus from Ob.sym_ne (by decide)), if_neg (show Ob.cdr ≠ Ob.less from Ob.sym_ne (by decide)), if_neg (show Ob.cdr ≠ Ob.consp from Ob.sym_ne (by decide)), if_neg (show Ob.cdr ≠ Ob.car from Ob.sym_ne (by decide)), if_pos rfl]
theorem base_natp [DecidableEq Ob] (a b : Ob) : Ob.base Ob.natp a b = some (Ob.tr (Ob.isNat a)) := by
  unfold Ob.base
  rw [if_neg (show Ob.natp ≠ Ob.equal from Ob.sym_ne (by decide)), if_neg (show Ob.natp ≠ Ob.cons from Ob.sym_ne (by decide)), if_neg (show Ob.natp ≠ Ob.implies from Ob.sym_ne (by decide)), if_neg (show Ob.natp ≠ Ob.plus from Ob.sym_ne (by decide)), if_neg (show Ob.natp ≠ Ob.minus from Ob.sym_ne (by decide)), if_neg (show Ob.natp ≠ Ob.less from Ob.sym_ne (by decide)), if_neg (show Ob.natp ≠ Ob.consp from Ob.sym_ne (by decide)), if_neg (show Ob.natp ≠ Ob.car from Ob.sym_ne (by decide)), if_neg (show Ob.natp ≠ Ob.cdr from Ob.sym_ne (by decide)), if_pos rfl]
theorem base_symbolp [DecidableEq Ob] (a b : Ob) : Ob.base Ob.symbolp a b = some (Ob.tr (Ob.isSym a)) := by
  unfold Ob.base
  rw [if_neg (show Ob.symbolp ≠ Ob.equal from Ob.sym_ne (by decide)), if_neg (show Ob.symbolp ≠ Ob.cons from Ob.sym_ne (by decide)), if_neg (show Ob.symbolp ≠ Ob.implies from Ob.sym_ne (by decide)), if_neg (show Ob.symbolp ≠ Ob.plus from Ob.sym_ne (by decide)), if_neg (show Ob.symbolp ≠ Ob.minus from Ob.sym_ne (by decide)), if_neg (show Ob.symbolp ≠ Ob.less from Ob.sym_ne (by decide)), if_neg (show Ob.symbolp ≠ Ob.consp from Ob.sym_ne (by decide)), if_neg (show Ob.symbolp ≠ Ob.car from Ob.sym_ne (by decide)), if_neg (show Ob.symbolp ≠ Ob.cdr from Ob.sym_ne (by decide)), if_neg (show Ob.symbolp ≠ Ob.natp from Ob.sym_ne (by decide)), if_pos rfl]
theorem base_height [DecidableEq Ob] (a b : Ob) : Ob.base Ob.height a b = some (.nat (Ob.hgt a)) := by
  unfold Ob.base
  rw [if_neg (show Ob.height ≠ Ob.equal from Ob.sym_ne (by decide)), if_neg (show Ob.height ≠ Ob.cons from Ob.sym_ne (by decide)), if_neg (show Ob.height ≠ Ob.implies from Ob.sym_ne (by decide)), if_neg (show Ob.height ≠ Ob.plus from Ob.sym_ne (by decide)), if_neg (show Ob.height ≠ Ob.minus from Ob.sym_ne (by decide)), if_neg (show Ob.height ≠ Ob.less from Ob.sym_ne (by decide)), if_neg (show Ob.height ≠ Ob.consp from Ob.sym_ne (by decide)), if_neg (show Ob.height ≠ Ob.car from Ob.sym_ne (by decide)), if_neg (show Ob.height ≠ Ob.cdr from Ob.sym_ne (by decide)), if_neg (show Ob.height ≠ Ob.natp from Ob.sym_ne (by decide)), if_neg (show Ob.height ≠ Ob.symbolp from Ob.sym_ne (by decide)), if_pos rfl]
theorem base_not [DecidableEq Ob] (a b : Ob) : Ob.base Ob.not a b = some (Ob.tr (decide (a = Ob.nil))) := by
  unfold Ob.base
  rw [if_neg (show Ob.not ≠ Ob.equal from Ob.sym_ne (by decide)), if_neg (show Ob.not ≠ Ob.cons from Ob.sym_ne (by decide)), if_neg (show Ob.not ≠ Ob.implies from Ob.sym_ne (by decide)), if_neg (show Ob.not ≠ Ob.plus from Ob.sym_ne (by decide)), if_neg (show Ob.not ≠ Ob.minus from Ob.sym_ne (by decide)), if_neg (show Ob.not ≠ Ob.less from Ob.sym_ne (by decide)), if_neg (show Ob.not ≠ Ob.consp from Ob.sym_ne (by decide)), if_neg (show Ob.not ≠ Ob.car from Ob.sym_ne (by decide)), if_neg (show Ob.not ≠ Ob.cdr from Ob.sym_ne (by decide)), if_neg (show Ob.not ≠ Ob.natp from Ob.sym_ne (by decide)), if_neg (show Ob.not ≠ Ob.symbolp from Ob.sym_ne (by decide)), if_neg (show Ob.not ≠ Ob.height from Ob.sym_ne (by decide))]
