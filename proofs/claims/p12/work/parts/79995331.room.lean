/-! the class: its room -/
theorem rh_i_r [DecidableEq Ob] {x : Int} {P : Int → Prop} (h : inC x → P x) : rh x P := fun v e hv => by subst e; exact h hv
theorem rc_i_r [DecidableEq Ob] {x : Int} {P : Int → Prop} (h : 0 ≤ x ∧ x < 408 → P x) : rc x P := fun v e hv => by subst e; exact h hv
abbrev pr_r (u : iST) (x : Int) : Prop := 0 ≤ x ∧ x < u.1 29 ∧ u.2.2 x < 0
def eL_r' (u : iST) (x : Int) : Int := if pr_r u x then cL (u.2.2 x) else 0
def eR_r' (u : iST) (x : Int) : Int := if pr_r u x then cR (u.2.2 x) else 0
def RT_r [DecidableEq Ob] (u : iST) : Prop := (44 ≤ u.1 29 ∧ u.1 29 ≤ 160000) ∧ (∀ j, pr_r u j → cL (u.2.2 j) < j ∧ cR (u.2.2 j) < j ∧ 44 ≤ j) ∧ (∀ j, 0 ≤ j → j < u.1 29 → -1 ≤ u.2.1 27 j ∧ u.2.1 27 j < j ∧ (u.2.1 27 j = -1 ∨ cSl (u.2.2 (u.2.1 27 j)) = cSl (u.2.2 j)) ∧ 0 ≤ u.2.1 28 j ∧ u.2.1 28 j ≤ 1000000 ∧ 0 ≤ u.2.1 29 j ∧ u.2.1 29 j ≤ j) ∧ (∀ h, 0 ≤ h → h < 32768 → -1 ≤ u.2.1 30 h ∧ u.2.1 30 h < u.1 29 ∧ (u.2.1 30 h = -1 ∨ cSl (u.2.2 (u.2.1 30 h)) = h)) ∧ CT u
abbrev mS_r : List Nat := [29, 32]
abbrev mR_r : List Nat := [27, 28, 29, 30]
/-- only numbers of S and rows of R are changed -/
def Fc_r (S R : List Nat) (u v : iST) : Prop := (∀ k, k ∉ S → v.1 k = u.1 k) ∧ ∀ k, k ∉ R → v.2.1 k = u.2.1 k
theorem Fc_r.rf [DecidableEq Ob] (S R : List Nat) (u : iST) : Fc_r S R u u := ⟨fun _ _ => rfl, fun _ _ => rfl⟩
theorem Fc_r.tr [DecidableEq Ob] {S R : List Nat} {u v w : iST} (h : Fc_r S R u v) (g : Fc_r S R v w) : Fc_r S R u w := ⟨fun k hk => (g.1 k hk).trans (h.1 k hk), fun k hk => (g.2 k hk).trans (h.2 k hk)⟩
theorem Fc_r.mono [DecidableEq Ob] {S R S' R' : List Nat} {u v : iST} (h : Fc_r S R u v) (h1 : ∀ k ∈ S, k ∈ S') (h2 : ∀ k ∈ R, k ∈ R') : Fc_r S' R' u v := ⟨fun k hk => h.1 k (fun z => hk (h1 k z)), fun k hk => h.2 k (fun z => hk (h2 k z))⟩
theorem Fc_r.I [DecidableEq Ob] {S R : List Nat} {u : iST} {k : Nat} {x : Int} (h : k ∈ S) : Fc_r S R u (iI u k x) := ⟨fun j hj => if_neg (fun e : j = k => hj (by rw [e]; exact h)), fun _ _ => rfl⟩
theorem Fc_r.A [DecidableEq Ob] {S R : List Nat} {u : iST} {k : Nat} {i x : Int} (h : k ∈ R) : Fc_r S R u (iA u k i x) := ⟨fun _ _ => rfl, fun j hj => if_neg (fun e : j = k => hj (by rw [e]; exact h))⟩
def Ce_r (u v : iST) : Prop := u.1 29 ≤ v.1 29 ∧ ∀ i, 0 ≤ i → i < u.1 29 → v.2.2 i = u.2.2 i
theorem Ce_r.rf [DecidableEq Ob] (u : iST) : Ce_r u u := ⟨Int.le_refl _, fun _ _ _ => rfl⟩
theorem Ce_r.tr [DecidableEq Ob] {u v w : iST} (h : Ce_r u v) (g : Ce_r v w) : Ce_r u w := ⟨Int.le_trans h.1 g.1, fun i i0 i1 => (g.2 i i0 (by have := h.1; omega)).trans (h.2 i i0 i1)⟩
theorem Ce_r.prx [DecidableEq Ob] {u v : iST} (h : Ce_r u v) {x : Int} (hx : pr_r u x) : pr_r v x := ⟨hx.1, by have := h.1; have := hx.2.1; omega, by rw [h.2 x hx.1 hx.2.1]; exact hx.2.2⟩
theorem Ce_r.prd [DecidableEq Ob] {u v : iST} (h : Ce_r u v) {x : Int} (x1 : x < u.1 29) (hx : pr_r v x) : pr_r u x := ⟨hx.1, x1, by rw [← h.2 x hx.1 x1]; exact hx.2.2⟩
theorem Ce_r.el [DecidableEq Ob] {u v : iST} (h : Ce_r u v) {x : Int} (x1 : x < u.1 29) : eL_r' v x = eL_r' u x ∧ eR_r' v x = eR_r' u x := by
  unfold eL_r' eR_r'
  by_cases hx : pr_r u x
  · rw [if_pos hx, if_pos (h.prx hx), if_pos hx, if_pos (h.prx hx), h.2 x hx.1 hx.2.1]; exact ⟨rfl, rfl⟩
  · rw [if_neg hx, if_neg (fun z => hx (h.prd x1 z)), if_neg hx, if_neg (fun z => hx (h.prd x1 z))]; exact ⟨rfl, rfl⟩
/-- STEPS are only made -/
def Sp_r (u v : iST) : Prop := u.1 31 ≤ v.1 31 ∧ (u.1 31 ≤ u.1 30 → v.1 31 ≤ v.1 30)
theorem Sp_r.rf [DecidableEq Ob] (u : iST) : Sp_r u u := ⟨Int.le_refl _, id⟩
theorem Sp_r.tr [DecidableEq Ob] {u v w : iST} (h : Sp_r u v) (g : Sp_r v w) : Sp_r u w := ⟨Int.le_trans h.1 g.1, fun z => g.2 (h.2 z)⟩
theorem Sp_r.eq [DecidableEq Ob] {u v : iST} (h1 : v.1 31 = u.1 31) (h0 : v.1 30 = u.1 30) : Sp_r u v := ⟨by omega, fun z => by omega⟩
def RG_r [DecidableEq Ob] (S R : List Nat) (u v : iST) : Prop := RT_r v ∧ Ce_r u v ∧ (Fc_r S R u v ∧ Sp_r u v) ∧ (v.1 32 = 0 → u.1 32 = 0)
abbrev RM_r [DecidableEq Ob] (u v : iST) : Prop := RG_r mS_r mR_r u v
theorem RG_r.rf [DecidableEq Ob] {S R : List Nat} {u : iST} (h : RT_r u) : RG_r S R u u := ⟨h, Ce_r.rf u, ⟨Fc_r.rf _ _ u, Sp_r.rf u⟩, id⟩
theorem RG_r.tr [DecidableEq Ob] {S R : List Nat} {u v w : iST} (h : RG_r S R u v) (g : RG_r S R v w) : RG_r S R u w := ⟨g.1, h.2.1.tr g.2.1, ⟨h.2.2.1.1.tr g.2.2.1.1, h.2.2.1.2.tr g.2.2.1.2⟩, fun z => h.2.2.2 (g.2.2.2 z)⟩
theorem RG_r.up [DecidableEq Ob] {S R : List Nat} {u v : iST} (h : RG_r S R u v) {x : Int} (hx : x < u.1 29) : x < v.1 29 := by have := h.2.1.1; omega
theorem RG_r.w [DecidableEq Ob] {S R S' R' : List Nat} {u v : iST} (h : RG_r S R u v) (h1 : ∀ k ∈ S, k ∈ S') (h2 : ∀ k ∈ R, k ∈ R') : RG_r S' R' u v := ⟨h.1, h.2.1, ⟨h.2.2.1.1.mono h1 h2, h.2.2.1.2⟩, h.2.2.2⟩
theorem RG_r.s [DecidableEq Ob] {S R : List Nat} {u v : iST} (h : RG_r S R u v) (k : Nat) (hk : k ∉ S) : v.1 k = u.1 k := h.2.2.1.1.1 k hk
theorem RG_r.a [DecidableEq Ob] {S R : List Nat} {u v : iST} (h : RG_r S R u v) (k : Nat) (hk : k ∉ R) : v.2.1 k = u.2.1 k := h.2.2.1.1.2 k hk
theorem RT_eq_r [DecidableEq Ob] {u v : iST} (h : RT_r u) (h1 : v.1 29 = u.1 29) (h2 : v.2.2 = u.2.2) (h3 : ∀ k ∈ mR_r, v.2.1 k = u.2.1 k) : RT_r v := by
  obtain ⟨a1, a2, a3, a4, a5⟩ := h
  have c := (CT_same (v := v) a5 h1 (fun k k1 k2 => h3 k (by
    have : k = 27 ∨ k = 28 ∨ k = 29 ∨ k = 30 := by omega
    rcases this with e | e | e | e <;> rw [e] <;> decide)) h2).1
  obtain ⟨b1, b2, b3, b4⟩ := RT_eq (u := u) (v := v) ⟨a1, a2, a3, a4⟩ h1 h2 h3
  exact ⟨b1, b2, b3, b4, c⟩
theorem CellOk_n [DecidableEq Ob] {n x : Int} (h0 : 0 ≤ x) (h1 : x < 4611686018427387904) : CellOk n x := ⟨fun z => absurd h0 (by omega), fun z => absurd h1 (by omega)⟩
theorem RT_r.o [DecidableEq Ob] {u : iST} (h : RT_r u) : RT u := ⟨h.1, h.2.1, h.2.2.1, h.2.2.2.1⟩
theorem RT_r.c [DecidableEq Ob] {u : iST} (h : RT_r u) : CT u := h.2.2.2.2
theorem RT.r [DecidableEq Ob] {u : iST} (h : RT u) (c : CT u) : RT_r u := ⟨h.1, h.2.1, h.2.2.1, h.2.2.2, c⟩
theorem RG.r [DecidableEq Ob] {S R : List Nat} {u v : iST} (h : RG S R u v) (c : CT v) : RG_r S R u v := ⟨h.1.r c, h.2.1, h.2.2.1, h.2.2.2⟩

theorem RG_r.put [DecidableEq Ob] {S R : List Nat} {u v w : iST} (h : RG_r S R u v) (hF : Fc_r S R v w) (hL : w.2.2 = v.2.2) (h29 : w.1 29 = v.1 29) (h32 : w.1 32 = 0 → v.1 32 = 0) (h3 : ∀ k ∈ mR_r, w.2.1 k = v.2.1 k) (hp : Sp_r v w) : RG_r S R u w := ⟨RT_eq_r h.1 h29 hL h3, h.2.1.tr ⟨by omega, fun i _ _ => by rw [hL]⟩, ⟨h.2.2.1.1.tr hF, h.2.2.1.2.tr hp⟩, fun z => h.2.2.2 (h32 z)⟩
/-- a number or a place of a row is set -/
theorem RG_r.I [DecidableEq Ob] {S R : List Nat} {u v : iST} (h : RG_r S R u v) {k : Nat} (x : Int) (hk : k ∈ S) (h29 : k ≠ 29) (h32 : k ≠ 32) (h31 : k ≠ 31 := by decide) (h30 : k ≠ 30 := by decide) : RG_r S R u (iI v k x) := h.put (Fc_r.I hk) rfl (if_neg (fun e => h29 e.symm)) (fun z => by rw [← z]; exact (if_neg (fun e => h32 e.symm)).symm) (fun _ _ => rfl) (Sp_r.eq (if_neg (fun e => h31 e.symm)) (if_neg (fun e => h30 e.symm)))
theorem RG_r.A [DecidableEq Ob] {S R : List Nat} {u v : iST} (h : RG_r S R u v) {k : Nat} (i x : Int) (hk : k ∈ R) (hm : k ∉ mR_r) : RG_r S R u (iA v k i x) := h.put (Fc_r.A hk) rfl rfl id (fun j hj => if_neg (fun e : j = k => hm (by rw [← e]; exact hj))) (Sp_r.rf _)
theorem eL_r_r [DecidableEq Ob] {u : iST} (hT : RT_r u) (x : Int) : 0 ≤ eL_r' u x ∧ eL_r' u x < u.1 29 ∧ (pr_r u x → eL_r' u x < x) := by
  have h44 := hT.1.1
  unfold eL_r'
  by_cases h : pr_r u x
  · rw [if_pos h]
    have q := hT.2.1 x h
    have r := cL_r (u.2.2 x)
    have x1 := h.2.1
    exact ⟨r.1, by omega, fun _ => q.1⟩
  · rw [if_neg h]; exact ⟨Int.le_refl _, by omega, fun z => absurd z h⟩
theorem eR_r_r [DecidableEq Ob] {u : iST} (hT : RT_r u) (x : Int) : 0 ≤ eR_r' u x ∧ eR_r' u x < u.1 29 ∧ (pr_r u x → eR_r' u x < x) := by
  have h44 := hT.1.1
  unfold eR_r'
  by_cases h : pr_r u x
  · rw [if_pos h]
    have q := hT.2.1 x h
    have r := cR_r (u.2.2 x)
    have x1 := h.2.1
    exact ⟨r.1, by omega, fun _ => q.2.1⟩
  · rw [if_neg h]; exact ⟨Int.le_refl _, by omega, fun z => absurd z h⟩
theorem j_left_r [DecidableEq Ob] {u : iST} {x : Int} {Q : Int → iST → Prop} (hT : RT_r u) (hq : Q (eL_r' u x) u) : v_7_left x Q u := by
  have hm := hT.1.2
  have no : ¬ pr_r u x → Q 0 u := fun z => by unfold eL_r' at hq; rw [if_neg z] at hq; exact hq
  unfold v_7_left
  refine br_i (fun h => no (fun z => by have := z.1; omega)) fun h0 => rd_i fun _ => br_i (fun h => no (fun z => by have := z.2.1; omega)) fun h1 => bd_i (by omega) (by omega) (rl_i fun _ => br_i (fun h => no (fun z => by have := z.2.2; omega)) fun h2 => bd_i (by omega) (by omega) (rl_i fun _ => rl_i fun _ => rd_i fun _ => rd_i fun _ => ?_))
  have hp : pr_r u x := ⟨by omega, by omega, by omega⟩
  unfold eL_r' at hq
  rw [if_pos hp] at hq
  exact hq
theorem j_right_r [DecidableEq Ob] {u : iST} {x : Int} {Q : Int → iST → Prop} (hT : RT_r u) (hq : Q (eR_r' u x) u) : v_7_right x Q u := by
  have hm := hT.1.2
  have no : ¬ pr_r u x → Q 0 u := fun z => by unfold eR_r' at hq; rw [if_neg z] at hq; exact hq
  unfold v_7_right
  refine br_i (fun h => no (fun z => by have := z.1; omega)) fun h0 => rd_i fun _ => br_i (fun h => no (fun z => by have := z.2.1; omega)) fun h1 => bd_i (by omega) (by omega) (rl_i fun _ => br_i (fun h => no (fun z => by have := z.2.2; omega)) fun h2 => bd_i (by omega) (by omega) (rl_i fun _ => rd_i fun _ => rd_i fun _ => ?_))
  have hp : pr_r u x := ⟨by omega, by omega, by omega⟩
  unfold eR_r' at hq
  rw [if_pos hp] at hq
  exact hq
theorem j_isPair_r [DecidableEq Ob] {u : iST} {x : Int} {Q : Int → iST → Prop} (hT : RT_r u) (hy : pr_r u x → Q 1 u) (hn : ¬ pr_r u x → Q 0 u) : v_7_isPair x Q u := by
  have hm := hT.1.2
  unfold v_7_isPair
  exact br_i (fun h => zt_0 (hn (fun z => by have := z.1; omega))) fun h0 => rd_i fun _ => br_i (fun h => zt_0 (hn (fun z => by have := z.2.1; omega))) fun h1 => bd_i (by omega) (by omega) (rl_i fun _ => br_i (fun h => zt_0 (hn (fun z => by have := z.2.2; omega))) fun h2 => zt_1 (hy ⟨by omega, by omega, by omega⟩))
/-- calls: pairs that do not begin with quote -/
theorem j_isCall_r [DecidableEq Ob] {u : iST} {x : Int} {Q : Int → iST → Prop} (hT : RT_r u) (hy : pr_r u x → eL_r' u x ≠ 2 → Q 1 u) (hn : (pr_r u x → eL_r' u x = 2) → Q 0 u) : v_7_isCall x Q u := by
  have hm := hT.1.2
  unfold v_7_isCall
  refine br_i (fun h => zt_0 (hn (fun z => by have := z.1; omega))) fun h0 => rd_i fun _ => br_i (fun h => zt_0 (hn (fun z => by have := z.2.1; omega))) fun h1 => bd_i (by omega) (by omega) (rl_i fun _ => br_i (fun h => zt_0 (hn (fun z => by have := z.2.2; omega))) fun h2 => bd_i (by omega) (by omega) (rl_i fun _ => rl_i fun _ => rd_i fun _ => rd_i fun _ => ?_))
  have hp : pr_r u x := ⟨by omega, by omega, by omega⟩
  have e : eL_r' u x = cL (u.2.2 x) := if_pos hp
  exact br_i (fun h => zt_0 (hn (fun _ => e.trans h))) fun h => zt_1 (hy hp (fun z => h (e.symm.trans z)))
theorem j_isCallOf_r [DecidableEq Ob] {u : iST} {x y : Int} {Q : Int → iST → Prop} (hT : RT_r u) (hy : pr_r u x → eL_r' u x = y → Q 1 u) (hn : (pr_r u x → eL_r' u x ≠ y) → Q 0 u) : v_7_isCallOf x y Q u := by
  have hm := hT.1.2
  unfold v_7_isCallOf
  refine br_i (fun h => zt_0 (hn (fun z => by have := z.1; omega))) fun h0 => rd_i fun _ => br_i (fun h => zt_0 (hn (fun z => by have := z.2.1; omega))) fun h1 => bd_i (by omega) (by omega) (rl_i fun _ => br_i (fun h => zt_0 (hn (fun z => by have := z.2.2; omega))) fun h2 => bd_i (by omega) (by omega) (rl_i fun _ => rl_i fun _ => rd_i fun _ => rd_i fun _ => ?_))
  have hp : pr_r u x := ⟨by omega, by omega, by omega⟩
  have e : eL_r' u x = cL (u.2.2 x) := if_pos hp
  exact br_i (fun h => zt_0 (hn (fun _ z => h (e.symm.trans z)))) fun h => zt_1 (hy hp (e.trans (Classical.not_not.mp h)))
theorem j_q_r [DecidableEq Ob] {u : iST} {Q : Int → iST → Prop} (hq : ∀ b, bz b → Q b u) : zt 0 (Q 0 u) ∧ zt 1 (Q 1 u) := ⟨zt_0 (hq 0 (Or.inl rfl)), zt_1 (hq 1 (Or.inr rfl))⟩
theorem j_isVariable_r [DecidableEq Ob] {u : iST} {x : Int} {Q : Int → iST → Prop} (hT : RT_r u) (hq : ∀ b, bz b → (b ≠ 0 → 1 < x ∧ x < u.1 29) → Q b u) : v_7_isVariable x Q u := by
  have hm := hT.1.2
  have z : zt 0 (Q 0 u) := zt_0 (hq 0 (Or.inl rfl) (fun z => absurd rfl z))
  unfold v_7_isVariable
  exact br_i (fun h => z) fun h0 => rd_i fun _ => br_i (fun h => z) fun h1 => bd_i (by omega) (by omega) (rl_i fun _ => rl_i fun _ => br_i (fun _ => z) fun _ => zt_1 (hq 1 (Or.inr rfl) (fun _ => ⟨by omega, by omega⟩)))
theorem j_isNatural_r [DecidableEq Ob] {u : iST} {x : Int} {Q : Int → iST → Prop} (hT : RT_r u) (hq : ∀ b, bz b → (b ≠ 0 → ¬ pr_r u x) → Q b u) : v_7_isNatural x Q u := by
  have hm := hT.1.2
  have z : zt 0 (Q 0 u) := zt_0 (hq 0 (Or.inl rfl) (fun z => absurd rfl z))
  unfold v_7_isNatural
  exact br_i (fun h => z) fun h0 => rd_i fun _ => br_i (fun h => z) fun h1 => bd_i (by omega) (by omega) (rl_i fun hv => rl_i fun _ => br_i (fun _ => z) fun hz => zt_1 (hq 1 (Or.inr rfl) (fun _ hp => by have := ushr62 hv (Or.inl (Classical.not_not.mp hz)); have := hp.2.2; omega)))
theorem j_isSymbol_r [DecidableEq Ob] {u : iST} {x : Int} {Q : Int → iST → Prop} (hT : RT_r u) (hq : ∀ b, bz b → Q b u) : v_7_isSymbol x Q u := by
  have hm := hT.1.2
  have z := j_q_r hq
  unfold v_7_isSymbol
  exact br_i (fun h => z.1) fun h0 => rd_i fun _ => br_i (fun h => z.1) fun h1 => bd_i (by omega) (by omega) (rl_i fun _ => rl_i fun _ => br_i (fun _ => z.1) fun _ => z.2)
theorem j_isName_r [DecidableEq Ob] {u : iST} {x : Int} {Q : Int → iST → Prop} (hT : RT_r u) (hq : ∀ b, bz b → (b ≠ 0 → 16 < x ∧ x < u.1 29) → Q b u) : v_7_isName x Q u := by
  have hm := hT.1.2
  have z : zt 0 (Q 0 u) := zt_0 (hq 0 (Or.inl rfl) (fun z => absurd rfl z))
  unfold v_7_isName
  exact br_i (fun h => z) fun h0 => rd_i fun _ => br_i (fun h => z) fun h1 => bd_i (by omega) (by omega) (rl_i fun _ => rl_i fun _ => br_i (fun _ => z) fun _ => zt_1 (hq 1 (Or.inr rfl) (fun _ => ⟨by omega, by omega⟩)))
theorem j_isConstant_r [DecidableEq Ob] {u : iST} {x : Int} {Q : Int → iST → Prop} (hT : RT_r u) (hq : ∀ b, bz b → (b ≠ 0 → x < u.1 29 ∧ (pr_r u x → eL_r' u x = 2)) → Q b u) : v_7_isConstant x Q u := by
  have hm := hT.1.2
  have z : zt 0 (Q 0 u) := zt_0 (hq 0 (Or.inl rfl) (fun z => absurd rfl z))
  unfold v_7_isConstant
  refine br_i (fun h => z) fun h0 => rd_i fun _ => br_i (fun h1 => bd_i (by omega) (by omega) (rl_i fun _ => br_i (fun h2 => ?_) fun h2 => rl_i fun _ => rd_i fun _ => rd_i fun _ => br_i (fun _ => z) fun h3 => zt_1 (hq 1 (Or.inr rfl) (fun _ => ⟨h1, fun hp => ?_⟩)))) fun _ => z
  · have y : zt 1 (Q 1 u) := zt_1 (hq 1 (Or.inr rfl) (fun _ => ⟨h1, fun hp => by have := hp.2.2; omega⟩))
    exact br_i (fun _ => y) fun _ => br_i (fun _ => z) fun _ => y
  · have e : eL_r' u x = cL (u.2.2 x) := if_pos hp
    exact e.trans (Classical.not_not.mp h3)
theorem j_cellOf_r [DecidableEq Ob] {u : iST} {x : Int} {Q : Int → iST → Prop} (hT : RT_r u) (hq : ∀ b, inL b → (¬ pr_r u x → 0 ≤ b) → Q b u) : v_7_cellOf x Q u := by
  have hm := hT.1.2
  have z : Q 4611686018427387904 u := hq _ (by decide) (fun _ => by decide)
  unfold v_7_cellOf
  refine br_i (fun h => z) fun h0 => rd_i fun _ => br_i (fun h => z) fun h1 => bd_i (by omega) (by omega) (rl_i fun hr => hq _ hr (fun hn => ?_))
  rcases Int.lt_or_le (u.2.2 x) 0 with q | q
  · exact absurd ⟨by omega, by omega, q⟩ hn
  · exact q
theorem j_isQuoted_r [DecidableEq Ob] {u : iST} {x : Int} {Q : Int → iST → Prop} (hT : RT_r u) (hq : ∀ b, bz b → (b ≠ 0 → pr_r u x ∧ eL_r' u x = 2) → Q b u) : v_7_isQuoted x Q u := by
  have hm := hT.1.2
  have z : zt 0 (Q 0 u) := zt_0 (hq 0 (Or.inl rfl) (fun z => absurd rfl z))
  unfold v_7_isQuoted
  refine br_i (fun h => z) fun h0 => rd_i fun _ => br_i (fun h => z) fun h1 => bd_i (by omega) (by omega) (rl_i fun _ => br_i (fun h => z) fun h2 => bd_i (by omega) (by omega) (rl_i fun _ => rl_i fun _ => rd_i fun _ => rd_i fun _ => br_i (fun h3 => bd_i (by omega) (by omega) (rl_i fun _ => rd_i fun _ => rd_i fun _ => ?_)) fun _ => z))
  have hp : pr_r u x := ⟨by omega, by omega, by omega⟩
  have q := hT.2.1 x hp
  have r := cR_r (u.2.2 x)
  have e : eL_r' u x = cL (u.2.2 x) := if_pos hp
  exact bd_i r.1 (show cR (u.2.2 x) < 160000 by omega) (rl_i fun _ => br_i (fun _ => z) fun _ => rd_i fun _ => rd_i fun _ => br_i (fun _ => z) fun _ => zt_1 (hq 1 (Or.inr rfl) (fun _ => ⟨hp, e.trans h3⟩)))
theorem j_sizeOf_r [DecidableEq Ob] {u : iST} {x : Int} {Q : Int → iST → Prop} (hT : RT_r u) (hq : ∀ b, 1 ≤ b → b ≤ 1000001 → Q b u) : v_7_sizeOf x Q u := by
  have hm := hT.1.2
  have z : Q 1 u := hq 1 (by decide) (by decide)
  unfold v_7_sizeOf
  refine br_i (fun h => z) fun h0 => rd_i fun _ => br_i (fun h => z) fun h1 => bd_i (by omega) (by omega) (rl_i fun _ => br_i (fun h => z) fun h2 => bd_i (by omega) (by omega) (rl_i fun _ => rl_i fun _ => rd_i fun _ => rd_i fun _ => br_i (fun h3 => bd_i (by omega) (by omega) (rl_i fun _ => rd_i fun _ => rd_i fun _ => ?_)) fun _ => z))
  have hp : pr_r u x := ⟨by omega, by omega, by omega⟩
  have q := hT.2.1 x hp
  have r := cR_r (u.2.2 x)
  have s := hT.2.2.1 (cR (u.2.2 x)) r.1 (by omega)
  exact bd_i r.1 (show cR (u.2.2 x) < 160000 by omega) (rd_i fun _ => ov_i (show -2147483648 ≤ 1 + u.2.1 28 (cR (u.2.2 x)) by omega) (show 1 + u.2.1 28 (cR (u.2.2 x)) < 2147483648 by omega) (hq _ (show 1 ≤ 1 + u.2.1 28 (cR (u.2.2 x)) by omega) (show 1 + u.2.1 28 (cR (u.2.2 x)) ≤ 1000001 by omega)))
theorem j_heightOf_r [DecidableEq Ob] {u : iST} {x : Int} {Q : Int → iST → Prop} (hT : RT_r u) (hq : ∀ b, 0 ≤ b → b < 160000 → Q b u) : v_7_heightOf x Q u := by
  have hm := hT.1.2
  have z : Q 0 u := hq 0 (by decide) (by decide)
  unfold v_7_heightOf
  refine br_i (fun h => z) fun h0 => rd_i fun _ => br_i (fun h => z) fun h1 => bd_i (by omega) (by omega) (rd_i fun _ => ?_)
  have s := hT.2.2.1 x (by omega) (by omega)
  exact hq _ (by omega) (by omega)
theorem j_numberOf_r [DecidableEq Ob] {u : iST} {x : Int} {Q : Int → iST → Prop} (hT : RT_r u) (hq : ∀ b, 0 ≤ b → b < 4611686018427387904 → Q b u) : v_7_numberOf x Q u := by
  have hm := hT.1.2
  have z : Q 0 u := hq 0 (by decide) (by decide)
  unfold v_7_numberOf
  refine br_i (fun h => z) fun h0 => rd_i fun _ => br_i (fun h => z) fun h1 => bd_i (by omega) (by omega) (rl_i fun hv => rl_i fun _ => br_i (fun _ => z) fun hz => bd_i (by omega) (by omega) (rl_i fun hr => ?_))
  have q := ushr62b hv (Classical.not_not.mp hz)
  exact hq _ q.1 q.2
theorem j_valueOf_r [DecidableEq Ob] {u : iST} {x : Int} {Q : Int → iST → Prop} (hT : RT_r u) (hx : x < u.1 29) (hq : ∀ b, b < u.1 29 → (0 ≤ x → 0 ≤ b) → Q b u) : v_7_valueOf x Q u := by
  have hm := hT.1.2
  have h44 := hT.1.1
  have z : Q x u := hq x hx id
  unfold v_7_valueOf
  refine br_i (fun h => z) fun h0 => rd_i fun _ => br_i (fun h => z) fun h1 => bd_i (by omega) (by omega) (rl_i fun _ => br_i (fun h2 => bd_i (by omega) (by omega) (rl_i fun _ => rd_i fun _ => rd_i fun _ => ?_)) fun _ => z)
  have hp : pr_r u x := ⟨by omega, by omega, by omega⟩
  have q := hT.2.1 x hp
  have r := cR_r (u.2.2 x)
  refine bd_i r.1 (show cR (u.2.2 x) < 160000 by omega) (rl_i fun _ => br_i (fun _ => hq 0 (by omega) (fun _ => Int.le_refl _)) fun h3 => rl_i fun _ => rd_i fun _ => rd_i fun _ => hq _ ?_ (fun _ => (cL_r _).1))
  have hp2 : pr_r u (cR (u.2.2 x)) := ⟨r.1, by omega, by have h3 : ¬ 0 ≤ u.2.2 (cR (u.2.2 x)) := h3; omega⟩
  have q2 := hT.2.1 _ hp2
  show cL (u.2.2 (cR (u.2.2 x))) < u.1 29
  omega
theorem j_item_r [DecidableEq Ob] {u : iST} {x k : Int} {Q : Int → iST → Prop} (hT : RT_r u) (k1 : k < 2147483647) (hq : ∀ b, 0 ≤ b → b < u.1 29 → Q b u) : v_7_item x k Q u := by
  have hm := hT.1.2
  have h44 := hT.1.1
  unfold v_7_item v_7_item_5
  refine lf3 (B := fun R x2 x3 x4 u => v_7_item_5b R Q x2 x3 x4 u) (fun x2 x3 x4 v => k = x2 ∧ u = v ∧ 0 ≤ x4) (fun _ _ x4 _ => (k - x4).toNat) ?_ ⟨rfl, rfl, Int.le_refl _⟩
  intro x2 x3 x4 v hI R ih
  obtain ⟨rfl, rfl, h4⟩ := hI
  have z : Q 0 u := hq 0 (by decide) (by omega)
  unfold v_7_item_5b
  refine br_i (fun _ => br_i (fun h => z) fun h0 => rd_i fun _ => br_i (fun h => z) fun h1 => bd_i (by omega) (by omega) (rl_i fun _ => br_i (fun h => z) fun h2 => bd_i (by omega) (by omega) (rl_i fun _ => rl_i fun _ => rd_i fun _ => rd_i fun _ => hq _ (cL_r _).1 ?_))) fun hlt => ?_
  · have q := hT.2.1 x3 ⟨by omega, by omega, by omega⟩
    show cL (u.2.2 x3) < u.1 29
    omega
  · have nx : ∀ y, ov (x4 + 1) (R k y (x4 + 1) u) := fun y => ov_i (by omega) (by omega) (ih _ _ _ _ ⟨rfl, rfl, by omega⟩ (by omega))
    exact br_i (fun _ => nx 0) fun h0 => rd_i fun _ => br_i (fun h => nx 0) fun h1 => bd_i (by omega) (by omega) (rl_i fun _ => br_i (fun h => nx 0) fun h2 => bd_i (by omega) (by omega) (rl_i fun _ => rd_i fun _ => rd_i fun _ => nx _))
/-- a list of n pairs -/
def LnP_r (u : iST) : Nat → Int → Prop
  | 0, x => ¬ pr_r u x
  | n + 1, x => pr_r u x ∧ LnP_r u n (eR_r' u x)
theorem LnP_r.uq [DecidableEq Ob] {u : iST} : ∀ {n m : Nat} {x : Int}, LnP_r u n x → LnP_r u m x → n = m
  | 0, 0, _, _, _ => rfl
  | 0, _ + 1, _, h, g => absurd g.1 h
  | _ + 1, 0, _, h, g => absurd h.1 g
  | n + 1, m + 1, _, h, g => by have := LnP_r.uq h.2 g.2; omega
theorem LnP_r.ext [DecidableEq Ob] {u v : iST} (hT : RT_r u) (h : Ce_r u v) : ∀ {n : Nat} {x : Int}, x < u.1 29 → LnP_r u n x → LnP_r v n x
  | 0, x, x1, hx => fun z => hx (h.prd x1 z)
  | n + 1, x, x1, hx => ⟨h.prx hx.1, by rw [(h.el x1).2]; exact LnP_r.ext hT h (eR_r_r hT x).2.1 hx.2⟩
theorem LnP_r.ex [DecidableEq Ob] {u : iST} (hT : RT_r u) : ∀ (k : Nat) (x : Int), x < k → ∃ n : Nat, (n : Int) ≤ k ∧ LnP_r u n x
  | 0, x, hx => ⟨0, Int.le_refl _, fun z => by have := z.1; omega⟩
  | k + 1, x, hx => by
    by_cases h : pr_r u x
    · have := (eR_r_r hT x).2.2 h
      obtain ⟨n, a, b⟩ := LnP_r.ex hT k (eR_r' u x) (by omega)
      exact ⟨n + 1, by omega, h, b⟩
    · exact ⟨0, by omega, h⟩
theorem j_lengthOf_r [DecidableEq Ob] {u : iST} {x : Int} {Q : Int → iST → Prop} (hT : RT_r u) (hn : Q (-1) u) (hq : ∀ n : Nat, (n : Int) ≤ 160000 → LnP_r u n x → Q n u) : v_7_lengthOf x Q u := by
  have hm := hT.1.2
  have h44 := hT.1.1
  unfold v_7_lengthOf v_7_lengthOf_4
  refine lf2 (B := fun R x2 x3 u => v_7_lengthOf_4b R Q x2 x3 u) (fun x2 x3 v => u = v ∧ ∃ i : Nat, x2 = i ∧ (0 < i → x3 + i < u.1 29 ∧ 0 ≤ x3) ∧ ∀ n, LnP_r u n x3 → LnP_r u (n + i) x) (fun _ x3 _ => x3.toNat) ?_ ⟨rfl, 0, rfl, fun z => by omega, fun n h => h⟩
  intro x2 x3 v hI R ih
  obtain ⟨rfl, i, rfl, h4, h5⟩ := hI
  have fin : ¬ pr_r u x3 → v_7_lengthOf_44 Q i x3 u := fun hp => by
    unfold v_7_lengthOf_44
    refine br_i (fun _ => hn) fun _ => hq i ?_ ?_
    · rcases Nat.eq_zero_or_pos i with z | z
      · omega
      · have := h4 z; omega
    · have := h5 0 hp
      rw [Nat.zero_add] at this
      exact this
  unfold v_7_lengthOf_4b
  refine br_i (fun h => fin (fun z => by have := z.1; omega)) fun h0 => rd_i fun _ => br_i (fun h => fin (fun z => by have := z.2.1; omega)) fun h1 => bd_i (by omega) (by omega) (rl_i fun _ => br_i (fun h => fin (fun z => by have := z.2.2; omega)) fun h2 => bd_i (by omega) (by omega) (rl_i fun _ => rd_i fun _ => rd_i fun _ => ?_))
  have hp : pr_r u x3 := ⟨by omega, by omega, by omega⟩
  have e : eR_r' u x3 = cR (u.2.2 x3) := if_pos hp
  have q := eR_r_r hT x3
  have q3 := q.2.2 hp
  have hi : (i : Int) ≤ 160000 := by
    rcases Nat.eq_zero_or_pos i with z | z
    · omega
    · have := h4 z; omega
  refine ov_i (by omega) (by omega) (ih _ _ _ ⟨rfl, i + 1, by omega, fun _ => ?_, fun n hn2 => ?_⟩ ?_)
  · show cR (u.2.2 x3) + ((i + 1 : Nat) : Int) < u.1 29 ∧ 0 ≤ cR (u.2.2 x3)
    rw [← e]
    rcases Nat.eq_zero_or_pos i with z | z
    · omega
    · have := h4 z; omega
  · have e2 : LnP_r u n (eR_r' u x3) := by rw [e]; exact hn2
    have := h5 (n + 1) ⟨hp, e2⟩
    rw [show n + 1 + i = n + (i + 1) from by omega] at this
    exact this
  · show (cR (u.2.2 x3)).toNat < _
    rw [← e]; omega

