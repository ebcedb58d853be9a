-- deps: 508 4309
/-! the reference, partial: the house, marks -/
/-- what lies below a mark -/
def DLow [DecidableEq Ob] (u : iST) (m d : Int) : Prop := u.2.1 36 d < m ∧ (∀ i, 0 ≤ i → i < u.2.1 37 d → u.2.1 38 (6 * d + i) < m) ∧ u.2.1 39 d < m ∧ (u.2.1 41 d ≠ 0 → u.2.1 40 d < m)
def TLow [DecidableEq Ob] (u : iST) (m k : Int) : Prop := u.2.1 43 k < m ∧ u.2.1 44 k < m ∧ (u.2.1 46 k ≠ -1 → u.2.1 46 k < m ∧ u.2.1 47 k < m ∧ ∀ i, 0 ≤ i → i < u.2.1 48 k → u.2.1 49 (120 * k + i) < m)
def srt [DecidableEq Ob] (u : iST) : List Int := (List.range (u.1 54).toNat).map (fun i : Nat => u.2.1 55 (i : Int))
def MkAt [DecidableEq Ob] (u : iST) (m : Int) (j : Nat) : Prop := (∀ d, 0 ≤ d → d < (Sp.nd ((srt u).take j) : Int) → DLow u m d) ∧ ∀ k, 0 ≤ k → k < ((j - Sp.nd ((srt u).take j) : Nat) : Int) → TLow u m k
def MkOk [DecidableEq Ob] (u : iST) : Prop := ∀ j, 0 ≤ j → j < u.1 54 → 44 ≤ u.2.1 56 j ∧ u.2.1 56 j ≤ u.1 8 ∧ (∀ i, 0 ≤ i → i < j → u.2.1 56 i ≤ u.2.1 56 j) ∧ MkAt u (u.2.1 56 j) j.toNat
/-- the formulas are terms -/
def FmOk [DecidableEq Ob] (u : iST) (E : Sp.Env) : Prop := ∀ k, 0 ≤ k → k < u.1 42 → Nd u E (u.2.1 44 k)
def HX [DecidableEq Ob] (u : iST) (H : Sp.Hs) (m : List Ob) : Prop := TI u ∧ TU u ∧ EnvS u (H.env m) ∧ FmOk u (H.env m) ∧ Sp.HOk H ∧ 0 ≤ u.1 54 ∧ H.2.2 = srt u ∧ MkOk u
theorem FmOk.mono [DecidableEq Ob] {n : Nat → Bool} {u v : iST} {E : Sp.Env} (h : FmOk u E) (hT : TI u) (hG : GZ n u v) (e42 : v.1 42 = u.1 42) (e44 : v.2.1 44 = u.2.1 44) : FmOk v E := fun k k0 k1 => by rw [e44]; exact ((h k k0 (by omega)).mono hT hG).1
/-- a command that has taken nothing -/
theorem EnvS.keep [DecidableEq Ob] {n : Nat → Bool} {u v : iST} {E : Sp.Env} (h : EnvS u E) (hT : TI u) (hG : GZ n u v) (hn : ∀ k, 35 ≤ k → k ≤ 57 → n k = false) : EnvS v E := by
  obtain ⟨h1, h2, h3, h4⟩ := h
  exact ⟨h1.mono hT hG (DSm.of hG.2.2.2.2 (hn _ (by decide) (by decide)) (hn _ (by decide) (by decide)) (hn _ (by decide) (by decide)) (hn _ (by decide) (by decide)) (hn _ (by decide) (by decide)) (hn _ (by decide) (by decide)) (hn _ (by decide) (by decide))), (hG.2.2.2.2 57 (hn _ (by decide) (by decide))).1.trans h2, h3, h4.mono hT hG ⟨(hG.2.2.2.2 42 (hn _ (by decide) (by decide))).1, fun k k0 k1 => (hG.2.2.2.2 k (hn k (by omega) (by omega))).2⟩⟩
theorem MkAt.keep [DecidableEq Ob] {u v : iST} {m : Int} {j : Nat} (h : MkAt u m j) (e : srt v = srt u) (hq : ∀ k, 35 ≤ k → k ≤ 49 → v.2.1 k = u.2.1 k) : MkAt v m j := by
  unfold MkAt DLow TLow at h ⊢
  rw [e]
  simp only [hq 36 (by decide) (by decide), hq 37 (by decide) (by decide), hq 38 (by decide) (by decide), hq 39 (by decide) (by decide), hq 40 (by decide) (by decide), hq 41 (by decide) (by decide), hq 43 (by decide) (by decide), hq 44 (by decide) (by decide), hq 46 (by decide) (by decide), hq 47 (by decide) (by decide), hq 48 (by decide) (by decide), hq 49 (by decide) (by decide)]
  exact h
theorem MkOk.keep [DecidableEq Ob] {u v : iST} (h : MkOk u) (h8 : u.1 8 ≤ v.1 8) (e54 : v.1 54 = u.1 54) (hq : ∀ k, 35 ≤ k → k ≤ 49 ∨ k = 55 ∨ k = 56 → v.2.1 k = u.2.1 k) : MkOk v ∧ srt v = srt u := by
  have es : srt v = srt u := by unfold srt; rw [e54, hq 55 (by decide) (by decide)]
  refine ⟨fun j j0 j1 => ?_, es⟩
  rw [hq 56 (by decide) (by decide)]
  rw [e54] at j1
  obtain ⟨a1, a2, a3, a4⟩ := h j j0 j1
  exact ⟨a1, by omega, a3, a4.keep es (fun k k0 k1 => hq k k0 (Or.inl k1))⟩
theorem f7K_out [DecidableEq Ob] {k : Nat} (h : (12 ≤ k ∧ k ≤ 14) ∨ (35 ≤ k ∧ k ≤ 52) ∨ (54 ≤ k ∧ k ≤ 57) ∨ k = 59 ∨ k = 132) : f7K k = false := by
  unfold f7K
  simp only [Bool.not_eq_false', Bool.or_eq_true, decide_eq_true_eq]
  omega
/-- what is muted is a matter of one row -/
theorem TOk.mute [DecidableEq Ob] {u v : iST} {H : Sp.Hs} {m m' : List Ob} {n : Nat → Bool} (h : TOk u (H.env m)) (hT : TI u) (hG : GZ n u v) (e42 : v.1 42 = u.1 42) (hq : ∀ k, 43 ≤ k → k ≤ 52 → v.2.1 k = u.2.1 k) (hm : ∀ r, 0 ≤ r → r < u.1 42 → (v.2.1 53 r ≠ 0 ↔ Ob.has m' (ob u (u.2.1 43 r)) = true)) : TOk v (H.env m') := by
  obtain ⟨h1, h2, h3, h4⟩ := h
  have st : ∀ r, 0 ≤ r → r < u.1 42 → Th1 v (H.env m') r ∧ thm1 v r = thm1 u r := by
    intro r r0 r1
    have a := h3 r r0 r1
    have hS : TSm u (v.1, (fun k => if k = 53 then u.2.1 53 else v.2.1 k), v.2.2) := ⟨e42, fun k k0 k1 => by
      show (if k = 53 then u.2.1 53 else v.2.1 k) = _
      by_cases c : k = 53
      · rw [if_pos c, c]
      · rw [if_neg c]; exact hq k k0 (by omega)⟩
    have g' : GZ (fun _ => true) u (v.1, (fun k => if k = 53 then u.2.1 53 else v.2.1 k), v.2.2) := by
      have := hG.mono (n' := fun _ => true) (fun _ z => by cases z)
      exact GZ_eq this (fun k hk => ⟨rfl, if_neg (by omega)⟩) rfl (fun k z => by cases z)
    obtain ⟨b1, b2⟩ := a.mono hT g' hS
    have eo : ∀ j, ob (v.1, (fun k => if k = 53 then u.2.1 53 else v.2.1 k), v.2.2) j = ob v j := fun j => ob_same (u := v) (v := (v.1, (fun k => if k = 53 then u.2.1 53 else v.2.1 k), v.2.2)) rfl rfl rfl rfl rfl j
    refine ⟨?_, ?_⟩
    · obtain ⟨c1, c2, c3⟩ := b1
      refine ⟨c1, c2, fun hz => ?_⟩
      obtain ⟨d1, d2, d3, d4, d5, d6⟩ := c3 hz
      have nd : ∀ j, Nd (v.1, (fun k => if k = 53 then u.2.1 53 else v.2.1 k), v.2.2) (H.env m) j → Nd v (H.env m') j := fun j hj => by
        have gv : GZ (fun _ => true) (v.1, (fun k => if k = 53 then u.2.1 53 else v.2.1 k), v.2.2) v := GZ_eq (GZ.rf g'.1 g'.2.1) (fun k hk => ⟨rfl, (if_neg (by omega)).symm⟩) rfl (fun k z => by cases z)
        exact (hj.mono g'.1 gv).1
      refine ⟨nd _ d1, by rw [← eo]; exact d2, nd _ d3, d4, fun x hx => ?_, fun i i0 i1 => ⟨nd _ (d6 i i0 i1).1, fun x hx => ?_⟩⟩
      · rw [← eo] at hx ⊢; exact d5 x hx
      · rw [← eo] at hx ⊢; exact (d6 i i0 i1).2 x hx
    · rw [← b2]
      unfold thm1 hypL
      simp only [eo]
      rfl
  refine ⟨?_, by rw [e42]; exact h2, fun r r0 r1 => (st r r0 (by omega)).1, fun r r0 r1 => ?_⟩
  · show (H.env m').thms = thmsL v
    have h1 : (H.env m').thms = thmsL u := h1
    rw [h1]
    unfold thmsL
    rw [e42]
    refine (List.map_congr_left (fun i hi => ?_)).symm
    have := List.mem_range.mp hi
    exact (st (i : Int) (by omega) (by omega)).2
  · rw [hm r r0 (by omega), hq 43 (by decide) (by decide), hG.ob hT (h3 r r0 (by omega)).1.1 (h3 r r0 (by omega)).1.2]
/-- terms that were made before the mark -/
theorem Tm_back [DecidableEq Ob] {u y : iST} (hT : TI u) (hY : TI y) (hU : TU u) (hE : Ext y u) (h3 : u.2.1 3 = y.2.1 3) : ∀ (n : Nat) (m : Bool) (k : Int), k.toNat < n → 0 ≤ k → k < y.1 8 → tmM u m (ob u k) → tmM y m (ob u k)
  | 0, _, k, hn, _, _, _ => by omega
  | n + 1, m, k, hn, k0, k1, h => by
    have hle := hE.1.1
    by_cases c : (ob u k).isPr = true
    · obtain ⟨a, b, a', b', _, _, e⟩ := ob_lft hT k0 (by omega) c
      cases m with
      | true =>
        rw [e] at h ⊢
        exact ⟨Tm_back hT hY hU hE h3 n false _ (by omega) a (by omega) h.1, Tm_back hT hY hU hE h3 n true _ (by omega) a' (by omega) h.2⟩
      | false =>
        have e2 : ∀ w, tmM w false (ob u k) = if ob u (u.2.1 0 k) = Ob.quote then (∃ x, ob u (u.2.1 1 k) = Ob.pr x Ob.nil ∧ Ob.constOf x = ob u k) else Ob.isSym (ob u (u.2.1 0 k)) = true ∧ tmM w true (ob u (u.2.1 1 k)) ∧ szd w (ob u k) := fun w => by rw [e]; rfl
        rw [e2] at h ⊢
        split at h
        · next q => rw [if_pos q]; exact h
        · next q =>
          rw [if_neg q]
          refine ⟨h.1, Tm_back hT hY hU hE h3 n true _ (by omega) a' (by omega) h.2.1, ?_⟩
          obtain ⟨j, j0, j1, ej, z⟩ := h.2.2
          rw [(hT.inj hU j0 j1 k0 (by omega)).mp ej] at z
          exact ⟨k, k0, k1, (hE.ob hY hT k0 k1).symm, by rw [← h3]; exact z⟩
    · cases e : ob u k with
      | op p q => rw [e] at c; exact absurd rfl c
      | var x => rw [e] at h; cases m with
        | true => exact h
        | false => trivial
