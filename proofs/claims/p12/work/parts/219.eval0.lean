/-! terms whose variables are in P; values; BASE functions -/
def VarOk (u : iST) (P : Int → Prop) (x : Int) : Prop := u.2.1 0 x = -2 ∧ x ≠ 0 ∧ x ≠ 1 → P x
def TV (u : iST) (P : Int → Prop) (o : Int) : Prop := IsT u o ∧ AllT u (VarOk u P) o
theorem AllE.and {u : iST} {P Q : Int → Prop} : ∀ {n : Nat} {l : Int}, AllE u P l n → AllE u Q l n → AllE u (fun x => P x ∧ Q x) l n
  | 0, _, _, _ => trivial
  | n + 1, _, ⟨a, b⟩, ⟨c, d⟩ => ⟨⟨a, c⟩, AllE.and b d⟩
theorem TV.args {u : iST} (hT : TI u) {P : Int → Prop} {o : Int} (h : TV u P o) (hc : 0 ≤ u.2.1 0 o ∧ u.2.1 0 o ≠ 2) : ∃ n : Nat, n ≤ 6 ∧ Ar u (u.2.1 0 o) n ∧ IsL u (u.2.1 1 o) n ∧ AllE u (TV u P) (u.2.1 1 o) n := by
  obtain ⟨n, a, b, c, d, _⟩ := h.1.args hc
  obtain ⟨m, e, f⟩ := h.2.step.2 hc
  have := IsL_uniq hT c e
  subst this
  exact ⟨n, a, b, c, d.and f⟩
theorem TV.ext {u v : iST} (hT : TI u) (hV : TI v) (h : ExtT u v) {P : Int → Prop} {o : Int} (ho : TV u P o) : TV v P o := by
  refine ⟨ho.1.ext hT h, TV u P, fun x hx => ?_, ho⟩
  have hr := hx.1.r
  have e := h.1.2.1 x hr.1 hr.2
  refine ⟨fun z => hx.2.step.1 (by rw [← e.1]; exact z), fun z => ?_⟩
  rw [e.1] at z
  obtain ⟨n, a, b, c, d⟩ := hx.args hT z
  rw [e.2.1]
  exact ⟨n, c.ext hT h.1, d.ext h.1 c⟩
theorem TV.mono {u : iST} (hT : TI u) {P P' : Int → Prop} (hP : ∀ x, P x → P' x) {o : Int} (h : TV u P o) : TV u P' o := by
  refine ⟨h.1, TV u P, fun x hx => ⟨fun z => hP x (hx.2.step.1 z), fun z => ?_⟩, h⟩
  obtain ⟨n, a, b, c, d⟩ := hx.args hT z
  exact ⟨n, c, d⟩
def numV (u : iST) (k : Int) : Int := if u.2.1 0 k = -1 then u.2.2 (u.2.1 1 k) else 0
theorem s_numberOf {k : Int} {Q : Int → iST → Prop} {u : iST} (hT : TI u) (k0 : 0 ≤ k) (k1 : k < u.1 8) (h : 0 ≤ numV u k → numV u k ≤ 4611686018427387903 → Q (numV u k) u) : w_numberOf k Q u := by
  have h8 := hT.2.1
  unfold numV at h
  unfold w_numberOf
  refine s_isNatural k0 (by omega) fun r _ hr => br_i (fun hz => ?_) fun hz => ?_
  · rw [if_neg (hr.mp hz)] at h
    exact h (by decide) (by decide)
  · have hn : u.2.1 0 k = -1 := by
      have : ¬ (u.2.1 0 k ≠ -1) := fun z => hz (hr.mpr z)
      omega
    have hv := hT.nat k0 k1 hn
    rw [if_pos hn] at h
    exact s_value k0 (by omega) hv.1 hv.2.2.1 fun _ => h hv.2.2.2.1 hv.2.2.2.2
/-- a value: NONE, or an object, and at most one object and one natural more -/
theorem g_basic {f b : Int} {Q : Int → iST → Prop} {u : iST} (hT : TI u) (b0 : 0 ≤ b) (b1 : b < 2399) (h8 : u.1 8 < 452000) (h6 : u.1 6 < 40000) (ha : 4 ≤ f → f ≤ 16 → 0 ≤ u.2.1 86 b ∧ u.2.1 86 b < u.1 8) (hb : 4 ≤ f → f ≤ 9 → 0 ≤ u.2.1 86 (b + 1) ∧ u.2.1 86 (b + 1) < u.1 8) (hq : ∀ r v, Grow u v 1 1 → (r = -1 ∨ (0 ≤ r ∧ r < v.1 8)) → Q r v) : w_basic f b Q u := by
  have h44 := hT.1
  have hm := hT.2.1
  have g0 : Grow u u 1 1 := (Grow.rf hT).mono (by omega) (by omega)
  have tr : ∀ x, w_truth x (fun v u => Q v u) u := fun x => by
    unfold w_truth
    exact br_i (fun _ => hq 0 u g0 (Or.inr ⟨by omega, by omega⟩)) fun _ => hq 1 u g0 (Or.inr ⟨by omega, by omega⟩)
  have t95 : ∀ x, w_basic_95 Q x u := fun x => by unfold w_basic_95; exact tr x
  have t121 : ∀ x, w_basic_121 Q x u := fun x => by unfold w_basic_121; exact tr x
  have t116 : w_basic_116 Q u := by unfold w_basic_116; exact t121 1
  have t221 : ∀ x, w_basic_221 Q x u := fun x => by unfold w_basic_221; exact tr x
  have t311 : ∀ x, w_basic_311 Q x u := fun x => by unfold w_basic_311; exact tr x
  have nat : ∀ x, 0 ≤ x → x ≤ 4611686018427387903 → w_natural x (fun v u => Q v u) u := fun x x0 x1 => g_natural hT h8 h6 x0 x1 fun k v hg k0 k1 _ _ => hq k v hg (Or.inr ⟨k0, k1⟩)
  unfold w_basic
  refine bd_i b0 (by omega) (rd_i fun _ => ov_i (by omega) (by omega) (bd_i (by omega) (by omega) (rd_i fun _ => ?_)))
  refine br_i (fun e => br_i (fun _ => t95 0) (fun _ => t95 1)) fun n4 => ?_
  refine br_i (fun e => ?_) fun n5 => ?_
  · have a := ha (by omega) (by omega)
    have c := hb (by omega) (by omega)
    exact g_pair hT h8 a.1 a.2 c.1 c.2 fun k v hg k0 k1 _ _ _ => hq k v (hg.mono (by omega) (by omega)) (Or.inr ⟨k0, k1⟩)
  refine br_i (fun e => br_i (fun _ => t116) (fun _ => br_i (fun _ => t121 0) (fun _ => t116))) fun n6 => ?_
  refine br_i (fun e => ?_) fun n7 => ?_
  · have a := ha (by omega) (by omega)
    have c := hb (by omega) (by omega)
    refine s_numberOf hT a.1 a.2 fun x0 x1 => s_numberOf hT c.1 c.2 fun y0 y1 => ol_i (by omega) (by omega) (br_i (fun hle => ?_) (fun _ => hq (-1) u g0 (Or.inl rfl)))
    exact s_numberOf hT a.1 a.2 fun _ _ => s_numberOf hT c.1 c.2 fun _ _ => ol_i (by omega) (by omega) (nat _ (by omega) (by omega))
  refine br_i (fun e => ?_) fun n8 => ?_
  · have a := ha (by omega) (by omega)
    have c := hb (by omega) (by omega)
    have t197 : ∀ x, 0 ≤ x → x ≤ 4611686018427387903 → w_basic_197 Q x u := fun x x0 x1 => by unfold w_basic_197; exact nat x x0 x1
    exact s_numberOf hT a.1 a.2 fun x0 x1 => s_numberOf hT c.1 c.2 fun y0 y1 => br_i (fun _ => t197 0 (by decide) (by decide)) fun hgt => s_numberOf hT a.1 a.2 fun _ _ => s_numberOf hT c.1 c.2 fun _ _ => ol_i (by omega) (by omega) (t197 _ (by omega) (by omega))
  refine br_i (fun e => ?_) fun n9 => ?_
  · have a := ha (by omega) (by omega)
    have c := hb (by omega) (by omega)
    exact s_numberOf hT a.1 a.2 fun x0 x1 => s_numberOf hT c.1 c.2 fun y0 y1 => br_i (fun _ => t221 0) (fun _ => t221 1)
  refine br_i (fun e => ?_) fun n10 => ?_
  · have a := ha (by omega) (by omega)
    exact s_isPair a.1 (by omega) fun r _ _ => tr r
  refine br_i (fun e => ?_) fun n11 => ?_
  · have a := ha (by omega) (by omega)
    refine s_isPair a.1 (by omega) fun r _ hr => br_i (fun _ => hq 0 u g0 (Or.inr ⟨by omega, by omega⟩)) fun hz => bd_i a.1 (by omega) (rd_i fun _ => ?_)
    have hp : 0 ≤ u.2.1 0 (u.2.1 86 b) := by
      have : ¬ (u.2.1 0 (u.2.1 86 b) < 0) := fun z => hz (hr.mpr z)
      omega
    have p := hT.pair a.1 a.2 hp
    exact hq _ u g0 (Or.inr ⟨hp, by omega⟩)
  refine br_i (fun e => ?_) fun n12 => ?_
  · have a := ha (by omega) (by omega)
    refine s_isPair a.1 (by omega) fun r _ hr => br_i (fun _ => hq 0 u g0 (Or.inr ⟨by omega, by omega⟩)) fun hz => bd_i a.1 (by omega) (rd_i fun _ => ?_)
    have p := hT.right_r a.1 a.2
    exact hq _ u g0 (Or.inr ⟨p.1, p.2⟩)
  refine br_i (fun e => ?_) fun n13 => ?_
  · have a := ha (by omega) (by omega)
    exact s_isNatural a.1 (by omega) fun r _ _ => tr r
  refine br_i (fun e => ?_) fun n14 => ?_
  · have a := ha (by omega) (by omega)
    exact s_isSymbol a.1 (by omega) fun r _ _ => tr r
  refine br_i (fun e => br_i (fun _ => t311 0) (fun _ => t311 1)) fun n15 => ?_
  refine br_i (fun e => ?_) fun n16 => br_i (fun _ => t311 0) (fun _ => t311 1)
  have a := ha (by omega) (by omega)
  have hh := (hT.node a.1 a.2).2
  exact bd_i a.1 (by omega) (rd_i fun _ => nat _ hh.1 (by omega))
