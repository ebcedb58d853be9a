/-! whole numbers in place of Int32, Int64; the words in which a method's weakest precondition is written -/
def jI (x : Int) : Int32 := Int32.ofInt x
def jL (x : Int) : Int64 := Int64.ofInt x
abbrev inR (x : Int) : Prop := -2147483648 ≤ x ∧ x < 2147483648
abbrev inL (x : Int) : Prop := -9223372036854775808 ≤ x ∧ x < 9223372036854775808
/-- a truth value -/
abbrev bz (x : Int) : Prop := x = 0 ∨ x = 1
/-- place i of a row of n places -/
def bd (i n : Int) (P : Prop) : Prop := 0 ≤ i ∧ i < n ∧ P
/-- x is read -/
def rd (x : Int) (P : Int → Prop) : Prop := ∀ v, v = x → inR v → P v
def rz (x : Int) (P : Int → Prop) : Prop := ∀ v, v = x → bz v → P v
def rl (x : Int) (P : Int → Prop) : Prop := ∀ v, v = x → inL v → P v
/-- x must be an int, a long, a truth value -/
def ov (x : Int) (P : Prop) : Prop := inR x ∧ P
def ol (x : Int) (P : Prop) : Prop := inL x ∧ P
def zt (x : Int) (P : Prop) : Prop := bz x ∧ P
def nz (x : Int) (P : Prop) : Prop := x ≠ 0 ∧ P
def br (c : Prop) (P Q : Prop) : Prop := (c → P) ∧ (¬ c → Q)
/-- the state becomes w -/
def sw {S : Type} (u : S) (P : S → Prop) : Prop := ∀ w, w = u → P w
theorem jI_toInt {x : Int} (h : inR x) : (jI x).toInt = x := Int32.toInt_ofInt_of_le h.1 h.2
theorem jL_toInt {x : Int} (h : inL x) : (jL x).toInt = x := Int64.toInt_ofInt_of_le h.1 h.2
theorem jI_of (x : Int32) : jI x.toInt = x := Int32.ofInt_toInt x
theorem jL_of (x : Int64) : jL x.toInt = x := Int64.ofInt_toInt x
theorem inR_of (x : Int32) : inR x.toInt := ⟨Int32.le_toInt x, Int32.toInt_lt x⟩
theorem inL_of (x : Int64) : inL x.toInt := ⟨Int64.le_toInt x, Int64.toInt_lt x⟩
theorem jI_add (x y : Int) : jI x + jI y = jI (x + y) := (Int32.ofInt_add x y).symm
theorem jI_sub (x y : Int) : jI x - jI y = jI (x - y) := (Int32.ofInt_sub x y).symm
theorem jI_mul (x y : Int) : jI x * jI y = jI (x * y) := (Int32.ofInt_mul x y).symm
theorem jL_add (x y : Int) : jL x + jL y = jL (x + y) := (Int64.ofInt_add x y).symm
theorem jL_sub (x y : Int) : jL x - jL y = jL (x - y) := (Int64.ofInt_sub x y).symm
theorem jL_mul (x y : Int) : jL x * jL y = jL (x * y) := (Int64.ofInt_mul x y).symm
theorem jI_lt {x y : Int} (hx : inR x) (hy : inR y) : jI x < jI y ↔ x < y := by rw [Int32.lt_iff_toInt_lt, jI_toInt hx, jI_toInt hy]
theorem jI_le {x y : Int} (hx : inR x) (hy : inR y) : jI x ≤ jI y ↔ x ≤ y := by rw [Int32.le_iff_toInt_le, jI_toInt hx, jI_toInt hy]
theorem jI_eq {x y : Int} (hx : inR x) (hy : inR y) : jI x = jI y ↔ x = y := by rw [← Int32.toInt_inj, jI_toInt hx, jI_toInt hy]
theorem jL_lt {x y : Int} (hx : inL x) (hy : inL y) : jL x < jL y ↔ x < y := by rw [Int64.lt_iff_toInt_lt, jL_toInt hx, jL_toInt hy]
theorem jL_le {x y : Int} (hx : inL x) (hy : inL y) : jL x ≤ jL y ↔ x ≤ y := by rw [Int64.le_iff_toInt_le, jL_toInt hx, jL_toInt hy]
theorem jL_eq {x y : Int} (hx : inL x) (hy : inL y) : jL x = jL y ↔ x = y := by rw [← Int64.toInt_inj, jL_toInt hx, jL_toInt hy]
theorem inR0 : inR 0 := by decide
theorem jI_0 : (0 : Int32) = jI 0 := rfl
theorem jI_in {i n : Int} {N : Nat} (hn : n = (N : Int)) (h0 : 0 ≤ i) (h1 : i < n) (hR : inR i) : vp_in (jI i) N := by
  rw [vp_in_iff, jI_toInt hR]
  omega
theorem jI_cl {i : Int} (h : inR i) : (jI i).toNatClampNeg = i.toNat := by
  show (jI i).toInt.toNat = i.toNat
  rw [jI_toInt h]
theorem bz_in {x : Int} (h : bz x) : inR x := by rcases h with rfl | rfl <;> decide
theorem bz_nar {x : Int} (h : bz x) : narrow .boolean (.int (jI x)) = .int (jI x) := by rcases h with rfl | rfl <;> rfl
theorem bz_fit {x : Int} (h : bz x) : fits .boolean (.int (jI x)) = true := by rcases h with rfl | rfl <;> rfl
theorem bz_vp {x : Int} (h : bz x) : vp_nar .boolean (jI x) = jI x := by rcases h with rfl | rfl <;> rfl
/-! what wraps round -/
def wadd (a b : Int) : Int := (jI a + jI b).toInt
def wmul (a b : Int) : Int := (jI a * jI b).toInt
def wand (a b : Int) : Int := (jI a &&& jI b).toInt
def wor (a b : Int) : Int := (jI a ||| jI b).toInt
def wshr (a b : Int) : Int := (jI a >>> (jI b &&& 31)).toInt
def wushr (a b : Int) : Int := ((jI a).toUInt32 >>> ((jI b).toUInt32 &&& Int32.toUInt32 31)).toInt32.toInt
def wl2i (a : Int) : Int := (jL a).toInt32.toInt
def wlshr (a b : Int) : Int := (jL a >>> ((jI b).toInt64 &&& 63)).toInt
theorem wand_in {a b : Int} : inR (wand a b) := inR_of _
theorem jI_div {a b : Int} (ha : inR a) (hb : inR b) (h1 : b ≠ -1) : jI a / jI b = jI (a.tdiv b) := by
  have hne : jI b ≠ -1 := by
    intro h
    have h2 := congrArg Int32.toInt h
    rw [jI_toInt hb] at h2
    exact h1 h2
  rw [← jI_of (jI a / jI b), Int32.toInt_div_of_ne_right _ _ hne, jI_toInt ha, jI_toInt hb]
theorem jL_div {a b : Int} (ha : inL a) (hb : inL b) (h1 : b ≠ -1) : jL a / jL b = jL (a.tdiv b) := by
  have hne : jL b ≠ -1 := by
    intro h
    have h2 := congrArg Int64.toInt h
    rw [jL_toInt hb] at h2
    exact h1 h2
  rw [← jL_of (jL a / jL b), Int64.toInt_div_of_ne_right _ _ hne, jL_toInt ha, jL_toInt hb]
theorem tdiv_in {a b : Int} {lo hi : Int} (hlo : lo ≤ 0) (hhi : 0 ≤ hi) (h1 : lo ≤ a) (h2 : a ≤ hi) (hb : 0 < b) : lo ≤ a.tdiv b ∧ a.tdiv b ≤ hi := by
  rcases Int.le_total 0 a with h | h
  · have h3 : 0 ≤ a.tdiv b := Int.tdiv_nonneg h (Int.le_of_lt hb)
    have h4 : a.tdiv b ≤ a := Int.tdiv_le_self b h
    omega
  · have e : a = -(-a) := by omega
    have h3 : 0 ≤ (-a).tdiv b := Int.tdiv_nonneg (by omega) (Int.le_of_lt hb)
    have h4 : (-a).tdiv b ≤ -a := Int.tdiv_le_self b (by omega)
    have h5 : a.tdiv b = -((-a).tdiv b) := by rw [Int.neg_tdiv, Int.neg_neg]
    omega
theorem tdivI {a b : Int} (ha : inR a) (hb : 0 < b) : inR (a.tdiv b) := by
  have h := tdiv_in (lo := -2147483648) (hi := 2147483647) (by decide) (by decide) ha.1 (by have := ha.2; omega) hb
  exact ⟨h.1, by omega⟩
theorem tdivL {a b : Int} (ha : inL a) (hb : 0 < b) : inL (a.tdiv b) := by
  have h := tdiv_in (lo := -9223372036854775808) (hi := 9223372036854775807) (by decide) (by decide) ha.1 (by have := ha.2; omega) hb
  exact ⟨h.1, by omega⟩
section KRows
variable {p : Program} {l : Launch} {e : Env} {R : Room} {s : State} {m : MethodId} {args : Array Value} {below : List Frame} {meth : Method} {c : Code} {H : Heap} {locs : List Loc} {cells slots : Nat} {Q : State → Prop}
variable {cc : ByteArray} {pc : Nat} {ls : Array Slot} {rest : List Value}
theorem k_iadd (hx : p.tables.exec = Jvm.exec) (hb : c.code = cc) {a b : Int} (d : decode cc pc = .ok (.iadd, 1)) {P : Prop} (h : ov (a + b) P) (kk : inR (a + b) → P → W p l e R s m args below meth c H locs cells slots Q (F0 m (pc + 1) ls (.int (jI (a + b)) :: rest))) : W p l e R s m args below meth c H locs cells slots Q (F0 m pc ls (.int (jI b) :: .int (jI a) :: rest)) := lv_iadd hx hb d (by rw [jI_add]; exact kk h.1 h.2)
theorem k_isub (hx : p.tables.exec = Jvm.exec) (hb : c.code = cc) {a b : Int} (d : decode cc pc = .ok (.isub, 1)) {P : Prop} (h : ov (a - b) P) (kk : inR (a - b) → P → W p l e R s m args below meth c H locs cells slots Q (F0 m (pc + 1) ls (.int (jI (a - b)) :: rest))) : W p l e R s m args below meth c H locs cells slots Q (F0 m pc ls (.int (jI b) :: .int (jI a) :: rest)) := lv_isub hx hb d (by rw [jI_sub]; exact kk h.1 h.2)
theorem k_imul (hx : p.tables.exec = Jvm.exec) (hb : c.code = cc) {a b : Int} (d : decode cc pc = .ok (.imul, 1)) {P : Prop} (h : ov (a * b) P) (kk : inR (a * b) → P → W p l e R s m args below meth c H locs cells slots Q (F0 m (pc + 1) ls (.int (jI (a * b)) :: rest))) : W p l e R s m args below meth c H locs cells slots Q (F0 m pc ls (.int (jI b) :: .int (jI a) :: rest)) := lv_imul hx hb d (by rw [jI_mul]; exact kk h.1 h.2)
theorem k_ladd (hx : p.tables.exec = Jvm.exec) (hb : c.code = cc) {a b : Int} (d : decode cc pc = .ok (.ladd, 1)) {P : Prop} (h : ol (a + b) P) (kk : inL (a + b) → P → W p l e R s m args below meth c H locs cells slots Q (F0 m (pc + 1) ls (.long (jL (a + b)) :: rest))) : W p l e R s m args below meth c H locs cells slots Q (F0 m pc ls (.long (jL b) :: .long (jL a) :: rest)) := lv_ladd hx hb d (by rw [jL_add]; exact kk h.1 h.2)
theorem k_lsub (hx : p.tables.exec = Jvm.exec) (hb : c.code = cc) {a b : Int} (d : decode cc pc = .ok (.lsub, 1)) {P : Prop} (h : ol (a - b) P) (kk : inL (a - b) → P → W p l e R s m args below meth c H locs cells slots Q (F0 m (pc + 1) ls (.long (jL (a - b)) :: rest))) : W p l e R s m args below meth c H locs cells slots Q (F0 m pc ls (.long (jL b) :: .long (jL a) :: rest)) := lv_lsub hx hb d (by rw [jL_sub]; exact kk h.1 h.2)
theorem k_lmul (hx : p.tables.exec = Jvm.exec) (hb : c.code = cc) {a b : Int} (d : decode cc pc = .ok (.lmul, 1)) {P : Prop} (h : ol (a * b) P) (kk : inL (a * b) → P → W p l e R s m args below meth c H locs cells slots Q (F0 m (pc + 1) ls (.long (jL (a * b)) :: rest))) : W p l e R s m args below meth c H locs cells slots Q (F0 m pc ls (.long (jL b) :: .long (jL a) :: rest)) := lv_lmul hx hb d (by rw [jL_mul]; exact kk h.1 h.2)
/-- division by what is above 0 -/
theorem k_idiv (hx : p.tables.exec = Jvm.exec) (hb : c.code = cc) {a b : Int} (ra : inR a) (rb : inR b) (d : decode cc pc = .ok (.idiv, 1)) {P : Prop} (h : 0 < b ∧ P) (kk : inR (a.tdiv b) → P → W p l e R s m args below meth c H locs cells slots Q (F0 m (pc + 1) ls (.int (jI (a.tdiv b)) :: rest))) : W p l e R s m args below meth c H locs cells slots Q (F0 m pc ls (.int (jI b) :: .int (jI a) :: rest)) := by
  have h1 := h.1
  refine lv_idiv hx hb d (fun q => ?_) ?_
  · rw [jI_0, jI_eq rb inR0] at q; omega
  · rw [jI_div ra rb (by omega)]; exact kk (tdivI ra h.1) h.2
theorem k_irem (hx : p.tables.exec = Jvm.exec) (hb : c.code = cc) {a b : Int} (ra : inR a) (rb : inR b) (d : decode cc pc = .ok (.irem, 1)) {P : Prop} (h : 0 < b ∧ P) (kk : inR (a.tmod b) → P → W p l e R s m args below meth c H locs cells slots Q (F0 m (pc + 1) ls (.int (jI (a.tmod b)) :: rest))) : W p l e R s m args below meth c H locs cells slots Q (F0 m pc ls (.int (jI b) :: .int (jI a) :: rest)) := by
  have h1 := h.1
  have e1 : a - a.tdiv b * b = a.tmod b := by rw [Int.tmod_def, Int.mul_comm]
  have hm : inR (a.tmod b) := by
    have h2 := Int.tmod_lt_of_pos a h1
    have h3 := Int.lt_tmod_of_pos a h1
    have := rb.1; have := rb.2
    exact ⟨by omega, by omega⟩
  refine lv_irem hx hb d (fun q => ?_) ?_
  · rw [jI_0, jI_eq rb inR0] at q; omega
  · rw [jI_div ra rb (by omega), jI_mul, jI_sub, e1]; exact kk hm h.2
theorem k_ldiv (hx : p.tables.exec = Jvm.exec) (hb : c.code = cc) {a b : Int} (ra : inL a) (rb : inL b) (d : decode cc pc = .ok (.ldiv, 1)) {P : Prop} (h : 0 < b ∧ P) (kk : inL (a.tdiv b) → P → W p l e R s m args below meth c H locs cells slots Q (F0 m (pc + 1) ls (.long (jL (a.tdiv b)) :: rest))) : W p l e R s m args below meth c H locs cells slots Q (F0 m pc ls (.long (jL b) :: .long (jL a) :: rest)) := by
  have h1 := h.1
  refine lv_ldiv hx hb d (fun q => ?_) ?_
  · rw [show (0 : Int64) = jL 0 from rfl, jL_eq rb (by decide)] at q; omega
  · rw [jL_div ra rb (by omega)]; exact kk (tdivL ra h.1) h.2
theorem k_lrem (hx : p.tables.exec = Jvm.exec) (hb : c.code = cc) {a b : Int} (ra : inL a) (rb : inL b) (d : decode cc pc = .ok (.lrem, 1)) {P : Prop} (h : 0 < b ∧ P) (kk : inL (a.tmod b) → P → W p l e R s m args below meth c H locs cells slots Q (F0 m (pc + 1) ls (.long (jL (a.tmod b)) :: rest))) : W p l e R s m args below meth c H locs cells slots Q (F0 m pc ls (.long (jL b) :: .long (jL a) :: rest)) := by
  have h1 := h.1
  have e1 : a - a.tdiv b * b = a.tmod b := by rw [Int.tmod_def, Int.mul_comm]
  have hm : inL (a.tmod b) := by
    have h2 := Int.tmod_lt_of_pos a h1
    have h3 := Int.lt_tmod_of_pos a h1
    have := rb.1; have := rb.2
    exact ⟨by omega, by omega⟩
  refine lv_lrem hx hb d (fun q => ?_) ?_
  · rw [show (0 : Int64) = jL 0 from rfl, jL_eq rb (by decide)] at q; omega
  · rw [jL_div ra rb (by omega), jL_mul, jL_sub, e1]; exact kk hm h.2
theorem k_w {x : Int32} (kk : ∀ v : Int, v = x.toInt → inR v → W p l e R s m args below meth c H locs cells slots Q (F0 m pc ls (.int (jI v) :: rest))) : W p l e R s m args below meth c H locs cells slots Q (F0 m pc ls (.int x :: rest)) := by
  have h := kk x.toInt rfl (inR_of x)
  rw [jI_of] at h
  exact h
theorem k_wl {x : Int64} (kk : ∀ v : Int, v = x.toInt → inL v → W p l e R s m args below meth c H locs cells slots Q (F0 m pc ls (.long (jL v) :: rest))) : W p l e R s m args below meth c H locs cells slots Q (F0 m pc ls (.long x :: rest)) := by
  have h := kk x.toInt rfl (inL_of x)
  rw [jL_of] at h
  exact h
theorem k_wadd (hx : p.tables.exec = Jvm.exec) (hb : c.code = cc) {a b : Int} (d : decode cc pc = .ok (.iadd, 1)) {P : Int → Prop} (h : rd (wadd a b) P) (kk : ∀ v, inR v → P v → W p l e R s m args below meth c H locs cells slots Q (F0 m (pc + 1) ls (.int (jI v) :: rest))) : W p l e R s m args below meth c H locs cells slots Q (F0 m pc ls (.int (jI b) :: .int (jI a) :: rest)) := lv_iadd hx hb d (k_w fun v ev hv => kk v hv (h v ev hv))
theorem k_wmul (hx : p.tables.exec = Jvm.exec) (hb : c.code = cc) {a b : Int} (d : decode cc pc = .ok (.imul, 1)) {P : Int → Prop} (h : rd (wmul a b) P) (kk : ∀ v, inR v → P v → W p l e R s m args below meth c H locs cells slots Q (F0 m (pc + 1) ls (.int (jI v) :: rest))) : W p l e R s m args below meth c H locs cells slots Q (F0 m pc ls (.int (jI b) :: .int (jI a) :: rest)) := lv_imul hx hb d (k_w fun v ev hv => kk v hv (h v ev hv))
theorem k_iand (hx : p.tables.exec = Jvm.exec) (hb : c.code = cc) {a b : Int} (d : decode cc pc = .ok (.iand, 1)) {P : Int → Prop} (h : rd (wand a b) P) (kk : ∀ v, inR v → P v → W p l e R s m args below meth c H locs cells slots Q (F0 m (pc + 1) ls (.int (jI v) :: rest))) : W p l e R s m args below meth c H locs cells slots Q (F0 m pc ls (.int (jI b) :: .int (jI a) :: rest)) := lv_iand hx hb d (k_w fun v ev hv => kk v hv (h v ev hv))
theorem k_ior (hx : p.tables.exec = Jvm.exec) (hb : c.code = cc) {a b : Int} (d : decode cc pc = .ok (.ior, 1)) {P : Int → Prop} (h : rd (wor a b) P) (kk : ∀ v, inR v → P v → W p l e R s m args below meth c H locs cells slots Q (F0 m (pc + 1) ls (.int (jI v) :: rest))) : W p l e R s m args below meth c H locs cells slots Q (F0 m pc ls (.int (jI b) :: .int (jI a) :: rest)) := lv_ior hx hb d (k_w fun v ev hv => kk v hv (h v ev hv))
theorem k_ishr (hx : p.tables.exec = Jvm.exec) (hb : c.code = cc) {a b : Int} (d : decode cc pc = .ok (.ishr, 1)) {P : Int → Prop} (h : rd (wshr a b) P) (kk : ∀ v, inR v → P v → W p l e R s m args below meth c H locs cells slots Q (F0 m (pc + 1) ls (.int (jI v) :: rest))) : W p l e R s m args below meth c H locs cells slots Q (F0 m pc ls (.int (jI b) :: .int (jI a) :: rest)) := lv_ishr hx hb d (k_w fun v ev hv => kk v hv (h v ev hv))
theorem k_iushr (hx : p.tables.exec = Jvm.exec) (hb : c.code = cc) {a b : Int} (d : decode cc pc = .ok (.iushr, 1)) {P : Int → Prop} (h : rd (wushr a b) P) (kk : ∀ v, inR v → P v → W p l e R s m args below meth c H locs cells slots Q (F0 m (pc + 1) ls (.int (jI v) :: rest))) : W p l e R s m args below meth c H locs cells slots Q (F0 m pc ls (.int (jI b) :: .int (jI a) :: rest)) := lv_iushr hx hb d rfl (k_w fun v ev hv => kk v hv (h v ev hv))
theorem k_l2i (hx : p.tables.exec = Jvm.exec) (hb : c.code = cc) {a : Int} (d : decode cc pc = .ok (.l2i, 1)) {P : Int → Prop} (h : rd (wl2i a) P) (kk : ∀ v, inR v → P v → W p l e R s m args below meth c H locs cells slots Q (F0 m (pc + 1) ls (.int (jI v) :: rest))) : W p l e R s m args below meth c H locs cells slots Q (F0 m pc ls (.long (jL a) :: rest)) := lv_l2i hx hb d rfl (k_w fun v ev hv => kk v hv (h v ev hv))
theorem k_lshr (hx : p.tables.exec = Jvm.exec) (hb : c.code = cc) {a b : Int} (d : decode cc pc = .ok (.lshr, 1)) {P : Int → Prop} (h : rl (wlshr a b) P) (kk : ∀ v, inL v → P v → W p l e R s m args below meth c H locs cells slots Q (F0 m (pc + 1) ls (.long (jL v) :: rest))) : W p l e R s m args below meth c H locs cells slots Q (F0 m pc ls (.int (jI b) :: .long (jL a) :: rest)) := lv_lshr hx hb d rfl (k_wl fun v ev hv => kk v hv (h v ev hv))
theorem k_i2l (hx : p.tables.exec = Jvm.exec) (hb : c.code = cc) {a : Int} (ra : inR a) (d : decode cc pc = .ok (.i2l, 1)) (kk : inL a → W p l e R s m args below meth c H locs cells slots Q (F0 m (pc + 1) ls (.long (jL a) :: rest))) : W p l e R s m args below meth c H locs cells slots Q (F0 m pc ls (.int (jI a) :: rest)) := by
  refine lv_i2l hx hb d ?_ (kk ⟨by have := ra.1; omega, by have := ra.2; omega⟩)
  exact Int64.toInt_inj.mp (by rw [Int32.toInt_toInt64, jI_toInt ra, jL_toInt ⟨by have := ra.1; omega, by have := ra.2; omega⟩])
theorem k_iinc (hx : p.tables.exec = Jvm.exec) (hb : c.code = cc) {i nL k : Nat} {n a : Int} {lv lv' : List (Nat × Value)} (d : decode cc pc = .ok (.iinc i n, 3)) (hl : lv_has ls nL lv) (hk : lv[k]? = some (i, .int (jI a))) (hn : i < nL) (he : (i, Value.int (jI (a + n))) :: lv.filter (fun q => !(q.1 == i) && !(q.1 + 1 == i && q.2.category == 2)) = lv') {P : Prop} (h : ov (a + n) P) (kk : ∀ ls' : Array Slot, inR (a + n) → P → lv_has ls' nL lv' → W p l e R s m args below meth c H locs cells slots Q (F0 m (pc + 3) ls' rest)) : W p l e R s m args below meth c H locs cells slots Q (F0 m pc ls rest) := lv_iinc hx hb d hl hk (jI_add a n) hn he (fun ls' hl' => kk ls' h.1 h.2 hl')
theorem k_if_eq (hx : p.tables.exec = Jvm.exec) (hb : c.code = cc) {a : Int} (ra : inR a) {off : Int} {tgt : Nat} (d : decode cc pc = .ok (.ifCond .eq off, 3)) (ht : (pc : Int) + off = (tgt : Int)) {P1 P2 : Prop} (h : br (a = 0) P1 P2) (kt : P1 → W p l e R s m args below meth c H locs cells slots Q (F0 m tgt ls rest)) (kf : P2 → W p l e R s m args below meth c H locs cells slots Q (F0 m (pc + 3) ls rest)) : W p l e R s m args below meth c H locs cells slots Q (F0 m pc ls (.int (jI a) :: rest)) := lv_if_eq hx hb d ht (fun q => kt (h.1 ((jI_eq ra inR0).mp q))) (fun q => kf (h.2 (fun z => q ((jI_eq ra inR0).mpr z))))
theorem k_icmp_eq (hx : p.tables.exec = Jvm.exec) (hb : c.code = cc) {a b : Int} (ra : inR a) (rb : inR b) {off : Int} {tgt : Nat} (d : decode cc pc = .ok (.if_icmp .eq off, 3)) (ht : (pc : Int) + off = (tgt : Int)) {P1 P2 : Prop} (h : br (a = b) P1 P2) (kt : P1 → W p l e R s m args below meth c H locs cells slots Q (F0 m tgt ls rest)) (kf : P2 → W p l e R s m args below meth c H locs cells slots Q (F0 m (pc + 3) ls rest)) : W p l e R s m args below meth c H locs cells slots Q (F0 m pc ls (.int (jI b) :: .int (jI a) :: rest)) := lv_icmp_eq hx hb d ht (fun q => kt (h.1 ((jI_eq ra rb).mp q))) (fun q => kf (h.2 (fun z => q ((jI_eq ra rb).mpr z))))
theorem k_if_ne (hx : p.tables.exec = Jvm.exec) (hb : c.code = cc) {a : Int} (ra : inR a) {off : Int} {tgt : Nat} (d : decode cc pc = .ok (.ifCond .ne off, 3)) (ht : (pc : Int) + off = (tgt : Int)) {P1 P2 : Prop} (h : br (a ≠ 0) P1 P2) (kt : P1 → W p l e R s m args below meth c H locs cells slots Q (F0 m tgt ls rest)) (kf : P2 → W p l e R s m args below meth c H locs cells slots Q (F0 m (pc + 3) ls rest)) : W p l e R s m args below meth c H locs cells slots Q (F0 m pc ls (.int (jI a) :: rest)) := lv_if_ne hx hb d ht (fun q => kt (h.1 (fun z => q ((jI_eq ra inR0).mpr z)))) (fun q => kf (h.2 (fun z => z ((jI_eq ra inR0).mp q))))
theorem k_icmp_ne (hx : p.tables.exec = Jvm.exec) (hb : c.code = cc) {a b : Int} (ra : inR a) (rb : inR b) {off : Int} {tgt : Nat} (d : decode cc pc = .ok (.if_icmp .ne off, 3)) (ht : (pc : Int) + off = (tgt : Int)) {P1 P2 : Prop} (h : br (a ≠ b) P1 P2) (kt : P1 → W p l e R s m args below meth c H locs cells slots Q (F0 m tgt ls rest)) (kf : P2 → W p l e R s m args below meth c H locs cells slots Q (F0 m (pc + 3) ls rest)) : W p l e R s m args below meth c H locs cells slots Q (F0 m pc ls (.int (jI b) :: .int (jI a) :: rest)) := lv_icmp_ne hx hb d ht (fun q => kt (h.1 (fun z => q ((jI_eq ra rb).mpr z)))) (fun q => kf (h.2 (fun z => z ((jI_eq ra rb).mp q))))
theorem k_if_lt (hx : p.tables.exec = Jvm.exec) (hb : c.code = cc) {a : Int} (ra : inR a) {off : Int} {tgt : Nat} (d : decode cc pc = .ok (.ifCond .lt off, 3)) (ht : (pc : Int) + off = (tgt : Int)) {P1 P2 : Prop} (h : br (a < 0) P1 P2) (kt : P1 → W p l e R s m args below meth c H locs cells slots Q (F0 m tgt ls rest)) (kf : P2 → W p l e R s m args below meth c H locs cells slots Q (F0 m (pc + 3) ls rest)) : W p l e R s m args below meth c H locs cells slots Q (F0 m pc ls (.int (jI a) :: rest)) := lv_if_lt hx hb d ht (fun q => kt (h.1 ((jI_lt ra inR0).mp q))) (fun q => kf (h.2 (fun z => q ((jI_lt ra inR0).mpr z))))
theorem k_icmp_lt (hx : p.tables.exec = Jvm.exec) (hb : c.code = cc) {a b : Int} (ra : inR a) (rb : inR b) {off : Int} {tgt : Nat} (d : decode cc pc = .ok (.if_icmp .lt off, 3)) (ht : (pc : Int) + off = (tgt : Int)) {P1 P2 : Prop} (h : br (a < b) P1 P2) (kt : P1 → W p l e R s m args below meth c H locs cells slots Q (F0 m tgt ls rest)) (kf : P2 → W p l e R s m args below meth c H locs cells slots Q (F0 m (pc + 3) ls rest)) : W p l e R s m args below meth c H locs cells slots Q (F0 m pc ls (.int (jI b) :: .int (jI a) :: rest)) := lv_icmp_lt hx hb d ht (fun q => kt (h.1 ((jI_lt ra rb).mp q))) (fun q => kf (h.2 (fun z => q ((jI_lt ra rb).mpr z))))
theorem k_if_ge (hx : p.tables.exec = Jvm.exec) (hb : c.code = cc) {a : Int} (ra : inR a) {off : Int} {tgt : Nat} (d : decode cc pc = .ok (.ifCond .ge off, 3)) (ht : (pc : Int) + off = (tgt : Int)) {P1 P2 : Prop} (h : br (0 ≤ a) P1 P2) (kt : P1 → W p l e R s m args below meth c H locs cells slots Q (F0 m tgt ls rest)) (kf : P2 → W p l e R s m args below meth c H locs cells slots Q (F0 m (pc + 3) ls rest)) : W p l e R s m args below meth c H locs cells slots Q (F0 m pc ls (.int (jI a) :: rest)) := lv_if_ge hx hb d ht (fun q => kt (h.1 ((jI_le inR0 ra).mp q))) (fun q => kf (h.2 (fun z => q ((jI_le inR0 ra).mpr z))))
theorem k_icmp_ge (hx : p.tables.exec = Jvm.exec) (hb : c.code = cc) {a b : Int} (ra : inR a) (rb : inR b) {off : Int} {tgt : Nat} (d : decode cc pc = .ok (.if_icmp .ge off, 3)) (ht : (pc : Int) + off = (tgt : Int)) {P1 P2 : Prop} (h : br (b ≤ a) P1 P2) (kt : P1 → W p l e R s m args below meth c H locs cells slots Q (F0 m tgt ls rest)) (kf : P2 → W p l e R s m args below meth c H locs cells slots Q (F0 m (pc + 3) ls rest)) : W p l e R s m args below meth c H locs cells slots Q (F0 m pc ls (.int (jI b) :: .int (jI a) :: rest)) := lv_icmp_ge hx hb d ht (fun q => kt (h.1 ((jI_le rb ra).mp q))) (fun q => kf (h.2 (fun z => q ((jI_le rb ra).mpr z))))
theorem k_if_gt (hx : p.tables.exec = Jvm.exec) (hb : c.code = cc) {a : Int} (ra : inR a) {off : Int} {tgt : Nat} (d : decode cc pc = .ok (.ifCond .gt off, 3)) (ht : (pc : Int) + off = (tgt : Int)) {P1 P2 : Prop} (h : br (0 < a) P1 P2) (kt : P1 → W p l e R s m args below meth c H locs cells slots Q (F0 m tgt ls rest)) (kf : P2 → W p l e R s m args below meth c H locs cells slots Q (F0 m (pc + 3) ls rest)) : W p l e R s m args below meth c H locs cells slots Q (F0 m pc ls (.int (jI a) :: rest)) := lv_if_gt hx hb d ht (fun q => kt (h.1 ((jI_lt inR0 ra).mp q))) (fun q => kf (h.2 (fun z => q ((jI_lt inR0 ra).mpr z))))
theorem k_icmp_gt (hx : p.tables.exec = Jvm.exec) (hb : c.code = cc) {a b : Int} (ra : inR a) (rb : inR b) {off : Int} {tgt : Nat} (d : decode cc pc = .ok (.if_icmp .gt off, 3)) (ht : (pc : Int) + off = (tgt : Int)) {P1 P2 : Prop} (h : br (b < a) P1 P2) (kt : P1 → W p l e R s m args below meth c H locs cells slots Q (F0 m tgt ls rest)) (kf : P2 → W p l e R s m args below meth c H locs cells slots Q (F0 m (pc + 3) ls rest)) : W p l e R s m args below meth c H locs cells slots Q (F0 m pc ls (.int (jI b) :: .int (jI a) :: rest)) := lv_icmp_gt hx hb d ht (fun q => kt (h.1 ((jI_lt rb ra).mp q))) (fun q => kf (h.2 (fun z => q ((jI_lt rb ra).mpr z))))
theorem k_if_le (hx : p.tables.exec = Jvm.exec) (hb : c.code = cc) {a : Int} (ra : inR a) {off : Int} {tgt : Nat} (d : decode cc pc = .ok (.ifCond .le off, 3)) (ht : (pc : Int) + off = (tgt : Int)) {P1 P2 : Prop} (h : br (a ≤ 0) P1 P2) (kt : P1 → W p l e R s m args below meth c H locs cells slots Q (F0 m tgt ls rest)) (kf : P2 → W p l e R s m args below meth c H locs cells slots Q (F0 m (pc + 3) ls rest)) : W p l e R s m args below meth c H locs cells slots Q (F0 m pc ls (.int (jI a) :: rest)) := lv_if_le hx hb d ht (fun q => kt (h.1 ((jI_le ra inR0).mp q))) (fun q => kf (h.2 (fun z => q ((jI_le ra inR0).mpr z))))
theorem k_icmp_le (hx : p.tables.exec = Jvm.exec) (hb : c.code = cc) {a b : Int} (ra : inR a) (rb : inR b) {off : Int} {tgt : Nat} (d : decode cc pc = .ok (.if_icmp .le off, 3)) (ht : (pc : Int) + off = (tgt : Int)) {P1 P2 : Prop} (h : br (a ≤ b) P1 P2) (kt : P1 → W p l e R s m args below meth c H locs cells slots Q (F0 m tgt ls rest)) (kf : P2 → W p l e R s m args below meth c H locs cells slots Q (F0 m (pc + 3) ls rest)) : W p l e R s m args below meth c H locs cells slots Q (F0 m pc ls (.int (jI b) :: .int (jI a) :: rest)) := lv_icmp_le hx hb d ht (fun q => kt (h.1 ((jI_le ra rb).mp q))) (fun q => kf (h.2 (fun z => q ((jI_le ra rb).mpr z))))
theorem k_lcmp_eq (hx : p.tables.exec = Jvm.exec) (hb : c.code = cc) {a b : Int} (ra : inL a) (rb : inL b) {off : Int} {tgt : Nat} (d0 : decode cc pc = .ok (.lcmp, 1)) (d : decode cc (pc + 1) = .ok (.ifCond .eq off, 3)) (ht : ((pc + 1 : Nat) : Int) + off = (tgt : Int)) {P1 P2 : Prop} (h : br (a = b) P1 P2) (kt : P1 → W p l e R s m args below meth c H locs cells slots Q (F0 m tgt ls rest)) (kf : P2 → W p l e R s m args below meth c H locs cells slots Q (F0 m (pc + 1 + 3) ls rest)) : W p l e R s m args below meth c H locs cells slots Q (F0 m pc ls (.long (jL b) :: .long (jL a) :: rest)) := by
  refine W.lcmp hx hb d0 ?_
  have e : lg_cmp (jL a) (jL b) = jI (if b < a then 1 else if a = b then 0 else -1) := by
    unfold lg_cmp
    simp only [gt_iff_lt, jL_lt rb ra, jL_eq ra rb]
    split
    · rfl
    · split <;> rfl
  rw [e]
  refine k_if_eq hx hb (by split; decide; split <;> decide) d ht ?_ kt kf
  refine ⟨fun q => h.1 ?_, fun q => h.2 ?_⟩ <;> (revert q; split <;> (try split) <;> intro q <;> omega)
theorem k_lcmp_ne (hx : p.tables.exec = Jvm.exec) (hb : c.code = cc) {a b : Int} (ra : inL a) (rb : inL b) {off : Int} {tgt : Nat} (d0 : decode cc pc = .ok (.lcmp, 1)) (d : decode cc (pc + 1) = .ok (.ifCond .ne off, 3)) (ht : ((pc + 1 : Nat) : Int) + off = (tgt : Int)) {P1 P2 : Prop} (h : br (a ≠ b) P1 P2) (kt : P1 → W p l e R s m args below meth c H locs cells slots Q (F0 m tgt ls rest)) (kf : P2 → W p l e R s m args below meth c H locs cells slots Q (F0 m (pc + 1 + 3) ls rest)) : W p l e R s m args below meth c H locs cells slots Q (F0 m pc ls (.long (jL b) :: .long (jL a) :: rest)) := by
  refine W.lcmp hx hb d0 ?_
  have e : lg_cmp (jL a) (jL b) = jI (if b < a then 1 else if a = b then 0 else -1) := by
    unfold lg_cmp
    simp only [gt_iff_lt, jL_lt rb ra, jL_eq ra rb]
    split
    · rfl
    · split <;> rfl
  rw [e]
  refine k_if_ne hx hb (by split; decide; split <;> decide) d ht ?_ kt kf
  refine ⟨fun q => h.1 ?_, fun q => h.2 ?_⟩ <;> (revert q; split <;> (try split) <;> intro q <;> omega)
theorem k_lcmp_lt (hx : p.tables.exec = Jvm.exec) (hb : c.code = cc) {a b : Int} (ra : inL a) (rb : inL b) {off : Int} {tgt : Nat} (d0 : decode cc pc = .ok (.lcmp, 1)) (d : decode cc (pc + 1) = .ok (.ifCond .lt off, 3)) (ht : ((pc + 1 : Nat) : Int) + off = (tgt : Int)) {P1 P2 : Prop} (h : br (a < b) P1 P2) (kt : P1 → W p l e R s m args below meth c H locs cells slots Q (F0 m tgt ls rest)) (kf : P2 → W p l e R s m args below meth c H locs cells slots Q (F0 m (pc + 1 + 3) ls rest)) : W p l e R s m args below meth c H locs cells slots Q (F0 m pc ls (.long (jL b) :: .long (jL a) :: rest)) := by
  refine W.lcmp hx hb d0 ?_
  have e : lg_cmp (jL a) (jL b) = jI (if b < a then 1 else if a = b then 0 else -1) := by
    unfold lg_cmp
    simp only [gt_iff_lt, jL_lt rb ra, jL_eq ra rb]
    split
    · rfl
    · split <;> rfl
  rw [e]
  refine k_if_lt hx hb (by split; decide; split <;> decide) d ht ?_ kt kf
  refine ⟨fun q => h.1 ?_, fun q => h.2 ?_⟩ <;> (revert q; split <;> (try split) <;> intro q <;> omega)
theorem k_lcmp_ge (hx : p.tables.exec = Jvm.exec) (hb : c.code = cc) {a b : Int} (ra : inL a) (rb : inL b) {off : Int} {tgt : Nat} (d0 : decode cc pc = .ok (.lcmp, 1)) (d : decode cc (pc + 1) = .ok (.ifCond .ge off, 3)) (ht : ((pc + 1 : Nat) : Int) + off = (tgt : Int)) {P1 P2 : Prop} (h : br (b ≤ a) P1 P2) (kt : P1 → W p l e R s m args below meth c H locs cells slots Q (F0 m tgt ls rest)) (kf : P2 → W p l e R s m args below meth c H locs cells slots Q (F0 m (pc + 1 + 3) ls rest)) : W p l e R s m args below meth c H locs cells slots Q (F0 m pc ls (.long (jL b) :: .long (jL a) :: rest)) := by
  refine W.lcmp hx hb d0 ?_
  have e : lg_cmp (jL a) (jL b) = jI (if b < a then 1 else if a = b then 0 else -1) := by
    unfold lg_cmp
    simp only [gt_iff_lt, jL_lt rb ra, jL_eq ra rb]
    split
    · rfl
    · split <;> rfl
  rw [e]
  refine k_if_ge hx hb (by split; decide; split <;> decide) d ht ?_ kt kf
  refine ⟨fun q => h.1 ?_, fun q => h.2 ?_⟩ <;> (revert q; split <;> (try split) <;> intro q <;> omega)
theorem k_lcmp_gt (hx : p.tables.exec = Jvm.exec) (hb : c.code = cc) {a b : Int} (ra : inL a) (rb : inL b) {off : Int} {tgt : Nat} (d0 : decode cc pc = .ok (.lcmp, 1)) (d : decode cc (pc + 1) = .ok (.ifCond .gt off, 3)) (ht : ((pc + 1 : Nat) : Int) + off = (tgt : Int)) {P1 P2 : Prop} (h : br (b < a) P1 P2) (kt : P1 → W p l e R s m args below meth c H locs cells slots Q (F0 m tgt ls rest)) (kf : P2 → W p l e R s m args below meth c H locs cells slots Q (F0 m (pc + 1 + 3) ls rest)) : W p l e R s m args below meth c H locs cells slots Q (F0 m pc ls (.long (jL b) :: .long (jL a) :: rest)) := by
  refine W.lcmp hx hb d0 ?_
  have e : lg_cmp (jL a) (jL b) = jI (if b < a then 1 else if a = b then 0 else -1) := by
    unfold lg_cmp
    simp only [gt_iff_lt, jL_lt rb ra, jL_eq ra rb]
    split
    · rfl
    · split <;> rfl
  rw [e]
  refine k_if_gt hx hb (by split; decide; split <;> decide) d ht ?_ kt kf
  refine ⟨fun q => h.1 ?_, fun q => h.2 ?_⟩ <;> (revert q; split <;> (try split) <;> intro q <;> omega)
theorem k_lcmp_le (hx : p.tables.exec = Jvm.exec) (hb : c.code = cc) {a b : Int} (ra : inL a) (rb : inL b) {off : Int} {tgt : Nat} (d0 : decode cc pc = .ok (.lcmp, 1)) (d : decode cc (pc + 1) = .ok (.ifCond .le off, 3)) (ht : ((pc + 1 : Nat) : Int) + off = (tgt : Int)) {P1 P2 : Prop} (h : br (a ≤ b) P1 P2) (kt : P1 → W p l e R s m args below meth c H locs cells slots Q (F0 m tgt ls rest)) (kf : P2 → W p l e R s m args below meth c H locs cells slots Q (F0 m (pc + 1 + 3) ls rest)) : W p l e R s m args below meth c H locs cells slots Q (F0 m pc ls (.long (jL b) :: .long (jL a) :: rest)) := by
  refine W.lcmp hx hb d0 ?_
  have e : lg_cmp (jL a) (jL b) = jI (if b < a then 1 else if a = b then 0 else -1) := by
    unfold lg_cmp
    simp only [gt_iff_lt, jL_lt rb ra, jL_eq ra rb]
    split
    · rfl
    · split <;> rfl
  rw [e]
  refine k_if_le hx hb (by split; decide; split <;> decide) d ht ?_ kt kf
  refine ⟨fun q => h.1 ?_, fun q => h.2 ?_⟩ <;> (revert q; split <;> (try split) <;> intro q <;> omega)
end KRows
